theorem sg_X6_in : kSig yX6_in wsX6_in cX6_in 6 (some .boolean) RX6 3 := ⟨⟨_, rfl⟩, rfl, by decide, by decide +kernel, by decide +kernel, by decide +kernel⟩
abbrev rm_X6_in : Room := { frames := 0, cells := 0, slots := 0, locals := 0 }
set_option maxHeartbeats 4000000 in
set_option maxRecDepth 100000 in
theorem c_X6_in (l : Launch) (dC : Nat → ClassId) (dI : Nat → Nat → Nat) (cI cZ : ClassId) (x0 : Int64) (x2 : Int64) (x4 : Int64) (u : Int32) (hf : f_X6_in x0 x2 x4 = some u) : kMi l yX6_in wsX6_in rm_X6_in (dC, dI) (kTy cI cZ) [.long x0, .long x2, .long x4] [] [] u := by
  refine kMi_of sg_X6_in ⟨rfl, rfl⟩ (Nat.le_of_ble_eq_true rfl) ?_
  intro p e s m args below meth c A H0 Q hx hb hml hown hts hK hN hA hend H locs ls hP hD hS hl
  have hl : lv_has ls 6 [(0, .long x0), (2, .long x2), (4, .long x4)] := hl
  unfold f_X6_in at hf
  refine lv_lload_n hx hb dX6_in_0 rfl (lv_at hl 0 rfl) ?_
  refine lv_lload_n hx hb dX6_in_1 rfl (lv_at hl 1 rfl) ?_
  refine W.lcmp hx hb dX6_in_2 ?_
  refine lv_if_lt (tgt := 17) hx hb dX6_in_3 (by decide) (fun c1 => ?_) (fun c1 => ?_)
  · replace hf := kt c1 hf
    refine lv_iconst (v := (0 : Int32)) hx hb dX6_in_17 (by decide) ?_
    cases hf
    exact hend _ _ _ _ dX6_in_18 rfl hP hS
  · replace hf := kf c1 hf
    refine lv_lload_n hx hb dX6_in_6 rfl (lv_at hl 0 rfl) ?_
    refine lv_lload hx hb dX6_in_7 (lv_at hl 2 rfl) ?_
    refine W.lcmp hx hb dX6_in_9 ?_
    refine lv_if_gt (tgt := 17) hx hb dX6_in_10 (by decide) (fun c2 => ?_) (fun c2 => ?_)
    · replace hf := kt c2 hf
      refine lv_iconst (v := (0 : Int32)) hx hb dX6_in_17 (by decide) ?_
      cases hf
      exact hend _ _ _ _ dX6_in_18 rfl hP hS
    · replace hf := kf c2 hf
      refine lv_iconst (v := (1 : Int32)) hx hb dX6_in_13 (by decide) ?_
      refine lv_goto (tgt := 18) hx hb dX6_in_14 (by decide) ?_
      cases hf
      exact hend _ _ _ _ dX6_in_18 rfl hP hS
theorem sg_X6_has : kSig yX6_has wsX6_has cX6_has 2 (some .boolean) RX6 2 := ⟨⟨_, rfl⟩, rfl, by decide, by decide +kernel, by decide +kernel, by decide +kernel⟩
abbrev rm_X6_has : Room := { frames := 0, cells := 0, slots := 0, locals := 0 }
set_option maxHeartbeats 4000000 in
set_option maxRecDepth 100000 in
theorem c_X6_has (l : Launch) (dC : Nat → ClassId) (dI : Nat → Nat → Nat) (cI cZ : ClassId) (x0 : Int32) (x1 : Int32) (u : Int32) (hf : f_X6_has x0 x1 = some u) : kMi l yX6_has wsX6_has rm_X6_has (dC, dI) (kTy cI cZ) [.int x0, .int x1] [] [] u := by
  refine kMi_of sg_X6_has ⟨rfl, rfl⟩ (Nat.le_of_ble_eq_true rfl) ?_
  intro p e s m args below meth c A H0 Q hx hb hml hown hts hK hN hA hend H locs ls hP hD hS hl
  have hl : lv_has ls 2 [(0, .int x0), (1, .int x1)] := hl
  unfold f_X6_has at hf
  refine lv_iload_n hx hb dX6_has_0 rfl (lv_at hl 0 rfl) ?_
  refine lv_iload_n hx hb dX6_has_1 rfl (lv_at hl 1 rfl) ?_
  refine lv_ishr hx hb dX6_has_2 ?_
  refine lv_iconst (v := (1 : Int32)) hx hb dX6_has_3 (by decide) ?_
  refine lv_iand hx hb dX6_has_4 ?_
  refine lv_iconst (v := (1 : Int32)) hx hb dX6_has_5 (by decide) ?_
  refine lv_icmp_ne (tgt := 13) hx hb dX6_has_6 (by decide) (fun c1 => ?_) (fun c1 => ?_)
  · replace hf := kf c1 hf
    refine lv_iconst (v := (0 : Int32)) hx hb dX6_has_13 (by decide) ?_
    cases hf
    exact hend _ _ _ _ dX6_has_14 rfl hP hS
  · replace hf := kt c1 hf
    refine lv_iconst (v := (1 : Int32)) hx hb dX6_has_9 (by decide) ?_
    refine lv_goto (tgt := 14) hx hb dX6_has_10 (by decide) ?_
    cases hf
    exact hend _ _ _ _ dX6_has_14 rfl hP hS
theorem sg_X6_many : kSig yX6_many wsX6_many cX6_many 3 (some .int) RX6 1 := ⟨⟨_, rfl⟩, rfl, by decide, by decide +kernel, by decide +kernel, by decide +kernel⟩
abbrev rm_X6_many : Room := { frames := 0, cells := 0, slots := 0, locals := 0 }
set_option maxHeartbeats 4000000 in
set_option maxRecDepth 100000 in
theorem c_X6_many (l : Launch) (dC : Nat → ClassId) (dI : Nat → Nat → Nat) (cI cZ : ClassId) (x0 : Int32) (u : Int32) (hf : f_X6_many x0 = some u) : kMi l yX6_many wsX6_many rm_X6_many (dC, dI) (kTy cI cZ) [.int x0] [] [] u := by
  refine kMi_of sg_X6_many ⟨rfl, rfl⟩ (Nat.le_of_ble_eq_true rfl) ?_
  intro p e s m args below meth c A H0 Q hx hb hml hown hts hK hN hA hend H locs ls hP hD hS hl
  have hl : lv_has ls 3 [(0, .int x0)] := hl
  have J_4 : ∀ (n_4 : Nat), ∀ (x1 : Int32) (x2 : Int32) (H : Heap) (locs : List Loc) (ls : Array Slot), va_P (dC, dI) vwCl [] H → va_D A [] → va_S A H0 H locs → lv_has ls 3 [(0, .int x0), (1, .int x1), (2, .int x2)] → f_X6_many_4 x0 n_4 x1 x2 = some u → W p l e rm_X6_many s m args below meth c H locs 0 0 Q (F0 m 4 ls []) := by
    intro n_4
    induction n_4 with
    | zero => intro x1 x2 H locs ls hP hD hS hl hf; exact nomatch hf
    | succ n_4 ih_4 =>
      intro x1 x2 H locs ls hP hD hS hl hf
      have hf : f_X6_many_4_b x0 (f_X6_many_4 x0 n_4) x1 x2 = some u := hf
      unfold f_X6_many_4_b at hf
      refine lv_iload_n hx hb dX6_many_4 rfl (lv_at hl 2 rfl) ?_
      refine lv_bipush (v := (7 : Int32)) hx hb dX6_many_5 (by decide) ?_
      refine lv_icmp_ge (tgt := 24) hx hb dX6_many_7 (by decide) (fun c1 => ?_) (fun c1 => ?_)
      · replace hf := kt c1 hf
        refine lv_iload_n hx hb dX6_many_24 rfl (lv_at hl 1 rfl) ?_
        cases hf
        exact hend _ _ _ _ dX6_many_25 rfl hP hS
      · replace hf := kf c1 hf
        refine lv_iload_n hx hb dX6_many_10 rfl (lv_at hl 1 rfl) ?_
        refine lv_iload_n hx hb dX6_many_11 rfl (lv_at hl 0 rfl) ?_
        refine lv_iload_n hx hb dX6_many_12 rfl (lv_at hl 2 rfl) ?_
        refine lv_ishr hx hb dX6_many_13 ?_
        refine lv_iconst (v := (1 : Int32)) hx hb dX6_many_14 (by decide) ?_
        refine lv_iand hx hb dX6_many_15 ?_
        refine lv_iadd hx hb dX6_many_16 ?_
        refine lv_istore_n (lv' := [(1, .int (x1 + ((x0 >>> (x2 &&& 31)) &&& (1 : Int32)))), (0, .int x0), (2, .int x2)]) hx hb dX6_many_17 rfl hl (by decide) rfl (fun ls hl => ?_)
        refine lv_iinc (v := (x2 + (1 : Int32))) (lv' := [(2, .int (x2 + (1 : Int32))), (1, .int (x1 + ((x0 >>> (x2 &&& 31)) &&& (1 : Int32)))), (0, .int x0)]) hx hb dX6_many_18 hl (k := 2) rfl rfl (by decide) rfl (fun ls hl => ?_)
        refine lv_goto (tgt := 4) hx hb dX6_many_21 (by decide) ?_
        exact ih_4 (x1 + ((x0 >>> (x2 &&& 31)) &&& (1 : Int32))) (x2 + (1 : Int32)) H locs ls hP hD hS (lv_sub hl [2, 1, 0] rfl) hf
  unfold f_X6_many at hf
  refine lv_iconst (v := (0 : Int32)) hx hb dX6_many_0 (by decide) ?_
  refine lv_istore_n (lv' := [(1, .int (0 : Int32)), (0, .int x0)]) hx hb dX6_many_1 rfl hl (by decide) rfl (fun ls hl => ?_)
  refine lv_iconst (v := (0 : Int32)) hx hb dX6_many_2 (by decide) ?_
  refine lv_istore_n (lv' := [(2, .int (0 : Int32)), (1, .int (0 : Int32)), (0, .int x0)]) hx hb dX6_many_3 rfl hl (by decide) rfl (fun ls hl => ?_)
  exact J_4 1000 (0 : Int32) (0 : Int32) H locs ls hP hD hS (lv_sub hl [2, 1, 0] rfl) hf
theorem sg_X6_noHouse : kSig yX6_noHouse wsX6_noHouse cX6_noHouse 2 (some .boolean) RX6 1 := ⟨⟨_, rfl⟩, rfl, by decide, by decide +kernel, by decide +kernel, by decide +kernel⟩
abbrev rm_X6_noHouse : Room := { frames := 1, cells := 0, slots := 0, locals := 25 }
set_option maxRecDepth 20000 in
theorem in_X6_noHouse_X6 : ∀ w ∈ u_ws RX6 TX6 32, w ∈ wsX6_noHouse := by decide +kernel
set_option maxHeartbeats 4000000 in
set_option maxRecDepth 100000 in
theorem c_X6_noHouse (l : Launch) (dC : Nat → ClassId) (dI : Nat → Nat → Nat) (cI cZ : ClassId) (a_o a_o_text a_o_worth a_o_readHouse a_o_readChild a_o_page a_o_trial a_o_book a_o_kept a_o_isKept a_o_seenHouse a_o_seenChild a_o_seenLived a_o_gains a_o_value : Nat) (v_o_thrown : Int32) (v_o_textSize : Int32) (v_o_place : Int32) (v_o_houses : Int32) (v_o_readHouses : Int32) (v_o_readChildren : Int32) (v_o_acts : Int32) (v_o_seen : Int32) (v_o_seed : Int64) (v_o_rollMost : Int32) (v_o_rollSet : Int32) (v_o_sideMany : Int32) (v_o_sideOne : Int32) (v_o_sideNone : Int32) (v_o_wrongSides : Int32) (v_o_wrongMany : Int32) (v_o_restMany : Int32) (v_o_restFirst : Int32) (x1 : Int32) (u : Int32) (hf : f_X6_noHouse v_o_houses x1 = some u) : kMi l yX6_noHouse wsX6_noHouse rm_X6_noHouse (dC, dI) (kTy cI cZ) [.ref a_o, .int x1] [(a_o, .inr (6, [.int v_o_thrown, .ref a_o_text, .int v_o_textSize, .int v_o_place, .int v_o_houses, .ref a_o_worth, .int v_o_readHouses, .ref a_o_readHouse, .int v_o_readChildren, .ref a_o_readChild, .ref a_o_page, .ref a_o_trial, .ref a_o_book, .int v_o_acts, .ref a_o_kept, .ref a_o_isKept, .int v_o_seen, .ref a_o_seenHouse, .ref a_o_seenChild, .ref a_o_seenLived, .long v_o_seed, .int v_o_rollMost, .int v_o_rollSet, .int v_o_sideMany, .int v_o_sideOne, .int v_o_sideNone, .int v_o_wrongSides, .int v_o_wrongMany, .int v_o_restMany, .int v_o_restFirst, .ref a_o_gains, .ref a_o_value]))] [(a_o, .inr (6, [.int v_o_thrown, .ref a_o_text, .int v_o_textSize, .int v_o_place, .int v_o_houses, .ref a_o_worth, .int v_o_readHouses, .ref a_o_readHouse, .int v_o_readChildren, .ref a_o_readChild, .ref a_o_page, .ref a_o_trial, .ref a_o_book, .int v_o_acts, .ref a_o_kept, .ref a_o_isKept, .int v_o_seen, .ref a_o_seenHouse, .ref a_o_seenChild, .ref a_o_seenLived, .long v_o_seed, .int v_o_rollMost, .int v_o_rollSet, .int v_o_sideMany, .int v_o_sideOne, .int v_o_sideNone, .int v_o_wrongSides, .int v_o_wrongMany, .int v_o_restMany, .int v_o_restFirst, .ref a_o_gains, .ref a_o_value]))] u := by
  refine kMi_of sg_X6_noHouse ⟨rfl, rfl⟩ (Nat.le_of_ble_eq_true rfl) ?_
  intro p e s m args below meth c A H0 Q hx hb hml hown hts hK hN hA hend H locs ls hP hD hS hl
  have hl : lv_has ls 2 [(0, .ref a_o), (1, .int x1)] := hl
  have hk57 := hts (.fieldLink RX6 57 "YoungestHouseModel" "houses" "I") (by decide +kernel)
  unfold f_X6_noHouse at hf
  refine lv_iload_n hx hb dX6_noHouse_0 rfl (lv_at hl 1 rfl) ?_
  refine lv_i2l (v := (x1).toInt64) hx hb dX6_noHouse_1 rfl ?_
  refine lv_lconst (v := (0 : Int64)) hx hb dX6_noHouse_2 (by decide) ?_
  refine lv_aload_n hx hb dX6_noHouse_3 rfl (lv_at hl 0 rfl) ?_
  refine va_get (D := (dC, dI)) (ci := 6) (v := .int v_o_houses) (C := RX6) (T := TX6) (N := 32) hx hb hts in_X6_noHouse_X6 hown hK hP 0 rfl rfl 4 (by decide) hk57 (fun _ h9 => h9) rfl dX6_noHouse_4 ?_
  refine lv_iconst (v := (1 : Int32)) hx hb dX6_noHouse_7 (by decide) ?_
  refine lv_isub hx hb dX6_noHouse_8 ?_
  refine lv_i2l (v := ((v_o_houses - (1 : Int32))).toInt64) hx hb dX6_noHouse_9 rfl ?_
  obtain ⟨u1, hu1, hf⟩ := kb1_e hf
  refine kc_i (wn := [(a_o, .inr (6, [.int v_o_thrown, .ref a_o_text, .int v_o_textSize, .int v_o_place, .int v_o_houses, .ref a_o_worth, .int v_o_readHouses, .ref a_o_readHouse, .int v_o_readChildren, .ref a_o_readChild, .ref a_o_page, .ref a_o_trial, .ref a_o_book, .int v_o_acts, .ref a_o_kept, .ref a_o_isKept, .int v_o_seen, .ref a_o_seenHouse, .ref a_o_seenChild, .ref a_o_seenLived, .long v_o_seed, .int v_o_rollMost, .int v_o_rollSet, .int v_o_sideMany, .int v_o_sideOne, .int v_o_sideNone, .int v_o_wrongSides, .int v_o_wrongMany, .int v_o_restMany, .int v_o_restFirst, .ref a_o_gains, .ref a_o_value]))]) (wr := [(a_o, .inr (6, [.int v_o_thrown, .ref a_o_text, .int v_o_textSize, .int v_o_place, .int v_o_houses, .ref a_o_worth, .int v_o_readHouses, .ref a_o_readHouse, .int v_o_readChildren, .ref a_o_readChild, .ref a_o_page, .ref a_o_trial, .ref a_o_book, .int v_o_acts, .ref a_o_kept, .ref a_o_isKept, .int v_o_seen, .ref a_o_seenHouse, .ref a_o_seenChild, .ref a_o_seenLived, .long v_o_seed, .int v_o_rollMost, .int v_o_rollSet, .int v_o_sideMany, .int v_o_sideOne, .int v_o_sideNone, .int v_o_wrongSides, .int v_o_wrongMany, .int v_o_restMany, .int v_o_restFirst, .ref a_o_gains, .ref a_o_value]))]) (kr_T (As := [.long (x1).toInt64, .long (0 : Int64), .long ((v_o_houses - (1 : Int32))).toInt64]) (rest := []) ⟨hx, hb, hml, hown, hts⟩ hK hN hP hD hl.1 (c_X6_in l dC dI cI cZ ((x1).toInt64) (0 : Int64) (((v_o_houses - (1 : Int32))).toInt64) u1 hu1 H.size) sg_X6_in ⟨rfl, rfl⟩ ⟨Nat.le_of_ble_eq_true rfl, Nat.le_of_ble_eq_true rfl⟩ gX6_noHouse_X6_in [] (by decide +kernel) rfl rfl rfl (Nat.le_of_ble_eq_true rfl) dX6_noHouse_10 ⟨Nat.zero_le _, Nat.zero_le _⟩) hA hP hD hS [] [0] 1 rfl rfl rfl rfl rfl (by decide +kernel) (by decide +kernel) rfl (fun H locs hP hD hS => ?_)
  refine lv_if_ne (tgt := 20) hx hb dX6_noHouse_13 (by decide) (fun c2 => ?_) (fun c2 => ?_)
  · replace hf := kf c2 hf
    refine lv_iconst (v := (0 : Int32)) hx hb dX6_noHouse_20 (by decide) ?_
    cases hf
    exact hend _ _ _ _ dX6_noHouse_21 rfl hP hS
  · replace hf := kt c2 hf
    refine lv_iconst (v := (1 : Int32)) hx hb dX6_noHouse_16 (by decide) ?_
    refine lv_goto (tgt := 21) hx hb dX6_noHouse_17 (by decide) ?_
    cases hf
    exact hend _ _ _ _ dX6_noHouse_21 rfl hP hS
theorem sg_X6_noChild : kSig yX6_noChild wsX6_noChild cX6_noChild 2 (some .boolean) RX6 1 := ⟨⟨_, rfl⟩, rfl, by decide, by decide +kernel, by decide +kernel, by decide +kernel⟩
abbrev rm_X6_noChild : Room := { frames := 1, cells := 0, slots := 0, locals := 25 }
set_option maxRecDepth 20000 in
theorem in_X6_noChild_X6 : ∀ w ∈ u_ws RX6 TX6 32, w ∈ wsX6_noChild := by decide +kernel
set_option maxHeartbeats 4000000 in
set_option maxRecDepth 100000 in
theorem c_X6_noChild (l : Launch) (dC : Nat → ClassId) (dI : Nat → Nat → Nat) (cI cZ : ClassId) (a_o a_o_text a_o_worth a_o_readHouse a_o_readChild a_o_page a_o_trial a_o_book a_o_kept a_o_isKept a_o_seenHouse a_o_seenChild a_o_seenLived a_o_gains a_o_value : Nat) (v_o_thrown : Int32) (v_o_textSize : Int32) (v_o_place : Int32) (v_o_houses : Int32) (v_o_readHouses : Int32) (v_o_readChildren : Int32) (v_o_acts : Int32) (v_o_seen : Int32) (v_o_seed : Int64) (v_o_rollMost : Int32) (v_o_rollSet : Int32) (v_o_sideMany : Int32) (v_o_sideOne : Int32) (v_o_sideNone : Int32) (v_o_wrongSides : Int32) (v_o_wrongMany : Int32) (v_o_restMany : Int32) (v_o_restFirst : Int32) (f_o_page : Nat → Int32) (x1 : Int32) (u : Int32) (hf : f_X6_noChild f_o_page x1 = some u) : kMi l yX6_noChild wsX6_noChild rm_X6_noChild (dC, dI) (kTy cI cZ) [.ref a_o, .int x1] [(a_o, .inr (6, [.int v_o_thrown, .ref a_o_text, .int v_o_textSize, .int v_o_place, .int v_o_houses, .ref a_o_worth, .int v_o_readHouses, .ref a_o_readHouse, .int v_o_readChildren, .ref a_o_readChild, .ref a_o_page, .ref a_o_trial, .ref a_o_book, .int v_o_acts, .ref a_o_kept, .ref a_o_isKept, .int v_o_seen, .ref a_o_seenHouse, .ref a_o_seenChild, .ref a_o_seenLived, .long v_o_seed, .int v_o_rollMost, .int v_o_rollSet, .int v_o_sideMany, .int v_o_sideOne, .int v_o_sideNone, .int v_o_wrongSides, .int v_o_wrongMany, .int v_o_restMany, .int v_o_restFirst, .ref a_o_gains, .ref a_o_value])), (a_o_page, .inl (cI, 33, .inl f_o_page))] [(a_o, .inr (6, [.int v_o_thrown, .ref a_o_text, .int v_o_textSize, .int v_o_place, .int v_o_houses, .ref a_o_worth, .int v_o_readHouses, .ref a_o_readHouse, .int v_o_readChildren, .ref a_o_readChild, .ref a_o_page, .ref a_o_trial, .ref a_o_book, .int v_o_acts, .ref a_o_kept, .ref a_o_isKept, .int v_o_seen, .ref a_o_seenHouse, .ref a_o_seenChild, .ref a_o_seenLived, .long v_o_seed, .int v_o_rollMost, .int v_o_rollSet, .int v_o_sideMany, .int v_o_sideOne, .int v_o_sideNone, .int v_o_wrongSides, .int v_o_wrongMany, .int v_o_restMany, .int v_o_restFirst, .ref a_o_gains, .ref a_o_value])), (a_o_page, .inl (cI, 33, .inl f_o_page))] u := by
  refine kMi_of sg_X6_noChild ⟨rfl, rfl⟩ (Nat.le_of_ble_eq_true rfl) ?_
  intro p e s m args below meth c A H0 Q hx hb hml hown hts hK hN hA hend H locs ls hP hD hS hl
  have hl : lv_has ls 2 [(0, .ref a_o), (1, .int x1)] := hl
  have hk22 := hts (.fieldLink RX6 22 "YoungestHouseModel" "page" "[I") (by decide +kernel)
  unfold f_X6_noChild at hf
  refine lv_iload_n hx hb dX6_noChild_0 rfl (lv_at hl 1 rfl) ?_
  refine lv_i2l (v := (x1).toInt64) hx hb dX6_noChild_1 rfl ?_
  refine lv_lconst (v := (0 : Int64)) hx hb dX6_noChild_2 (by decide) ?_
  refine lv_aload_n hx hb dX6_noChild_3 rfl (lv_at hl 0 rfl) ?_
  refine va_get (D := (dC, dI)) (ci := 6) (v := .ref a_o_page) (C := RX6) (T := TX6) (N := 32) hx hb hts in_X6_noChild_X6 hown hK hP 0 rfl rfl 10 (by decide) hk22 (fun _ h9 => h9) rfl dX6_noChild_4 ?_
  refine lv_bipush (v := (25 : Int32)) hx hb dX6_noChild_7 (by decide) ?_
  refine ka_ild (k := 25) hx hb hK hP 1 0 rfl rfl (kin_e (by decide)) rfl dX6_noChild_9 ?_
  refine lv_iconst (v := (1 : Int32)) hx hb dX6_noChild_10 (by decide) ?_
  refine lv_isub hx hb dX6_noChild_11 ?_
  refine lv_i2l (v := (((f_o_page 25) - (1 : Int32))).toInt64) hx hb dX6_noChild_12 rfl ?_
  obtain ⟨u1, hu1, hf⟩ := kb1_e hf
  refine kc_i (wn := [(a_o, .inr (6, [.int v_o_thrown, .ref a_o_text, .int v_o_textSize, .int v_o_place, .int v_o_houses, .ref a_o_worth, .int v_o_readHouses, .ref a_o_readHouse, .int v_o_readChildren, .ref a_o_readChild, .ref a_o_page, .ref a_o_trial, .ref a_o_book, .int v_o_acts, .ref a_o_kept, .ref a_o_isKept, .int v_o_seen, .ref a_o_seenHouse, .ref a_o_seenChild, .ref a_o_seenLived, .long v_o_seed, .int v_o_rollMost, .int v_o_rollSet, .int v_o_sideMany, .int v_o_sideOne, .int v_o_sideNone, .int v_o_wrongSides, .int v_o_wrongMany, .int v_o_restMany, .int v_o_restFirst, .ref a_o_gains, .ref a_o_value])), (a_o_page, .inl (cI, 33, .inl f_o_page))]) (wr := [(a_o, .inr (6, [.int v_o_thrown, .ref a_o_text, .int v_o_textSize, .int v_o_place, .int v_o_houses, .ref a_o_worth, .int v_o_readHouses, .ref a_o_readHouse, .int v_o_readChildren, .ref a_o_readChild, .ref a_o_page, .ref a_o_trial, .ref a_o_book, .int v_o_acts, .ref a_o_kept, .ref a_o_isKept, .int v_o_seen, .ref a_o_seenHouse, .ref a_o_seenChild, .ref a_o_seenLived, .long v_o_seed, .int v_o_rollMost, .int v_o_rollSet, .int v_o_sideMany, .int v_o_sideOne, .int v_o_sideNone, .int v_o_wrongSides, .int v_o_wrongMany, .int v_o_restMany, .int v_o_restFirst, .ref a_o_gains, .ref a_o_value])), (a_o_page, .inl (cI, 33, .inl f_o_page))]) (kr_T (As := [.long (x1).toInt64, .long (0 : Int64), .long (((f_o_page 25) - (1 : Int32))).toInt64]) (rest := []) ⟨hx, hb, hml, hown, hts⟩ hK hN hP hD hl.1 (c_X6_in l dC dI cI cZ ((x1).toInt64) (0 : Int64) ((((f_o_page 25) - (1 : Int32))).toInt64) u1 hu1 H.size) sg_X6_in ⟨rfl, rfl⟩ ⟨Nat.le_of_ble_eq_true rfl, Nat.le_of_ble_eq_true rfl⟩ gX6_noChild_X6_in [] (by decide +kernel) rfl rfl rfl (Nat.le_of_ble_eq_true rfl) dX6_noChild_13 ⟨Nat.zero_le _, Nat.zero_le _⟩) hA hP hD hS [] [0, 1] 2 rfl rfl rfl rfl rfl (by decide +kernel) (by decide +kernel) rfl (fun H locs hP hD hS => ?_)
  refine lv_if_ne (tgt := 23) hx hb dX6_noChild_16 (by decide) (fun c2 => ?_) (fun c2 => ?_)
  · replace hf := kf c2 hf
    refine lv_iconst (v := (0 : Int32)) hx hb dX6_noChild_23 (by decide) ?_
    cases hf
    exact hend _ _ _ _ dX6_noChild_24 rfl hP hS
  · replace hf := kt c2 hf
    refine lv_iconst (v := (1 : Int32)) hx hb dX6_noChild_19 (by decide) ?_
    refine lv_goto (tgt := 24) hx hb dX6_noChild_20 (by decide) ?_
    cases hf
    exact hend _ _ _ _ dX6_noChild_24 rfl hP hS
theorem sg_X6_write : kSig yX6_write wsX6_write cX6_write 2 (some .int) RX6 1 := ⟨⟨_, rfl⟩, rfl, by decide, by decide +kernel, by decide +kernel, by decide +kernel⟩
abbrev rm_X6_write : Room := { frames := 1, cells := 0, slots := 0, locals := 25 }
set_option maxRecDepth 20000 in
theorem in_X6_write_X6 : ∀ w ∈ u_ws RX6 TX6 32, w ∈ wsX6_write := by decide +kernel
set_option maxHeartbeats 4000000 in
set_option maxRecDepth 100000 in
theorem c_X6_write (l : Launch) (dC : Nat → ClassId) (dI : Nat → Nat → Nat) (cI cZ : ClassId) (a_o a_o_text a_o_worth a_o_readHouse a_o_readChild a_o_page a_o_trial a_o_book a_o_kept a_o_isKept a_o_seenHouse a_o_seenChild a_o_seenLived a_o_gains a_o_value : Nat) (v_o_thrown : Int32) (v_o_textSize : Int32) (v_o_place : Int32) (v_o_houses : Int32) (v_o_readHouses : Int32) (v_o_readChildren : Int32) (v_o_acts : Int32) (v_o_seen : Int32) (v_o_seed : Int64) (v_o_rollMost : Int32) (v_o_rollSet : Int32) (v_o_sideMany : Int32) (v_o_sideOne : Int32) (v_o_sideNone : Int32) (v_o_wrongSides : Int32) (v_o_wrongMany : Int32) (v_o_restMany : Int32) (v_o_restFirst : Int32) (f_o_text : Nat → Int32) (x1 : Int32) (u : Int32 × Int32 × Int32 × (Nat → Int32)) (hf : f_X6_write v_o_thrown v_o_textSize f_o_text x1 = some u) : kMi l yX6_write wsX6_write rm_X6_write (dC, dI) (kTy cI cZ) [.ref a_o, .int x1] [(a_o, .inr (6, [.int v_o_thrown, .ref a_o_text, .int v_o_textSize, .int v_o_place, .int v_o_houses, .ref a_o_worth, .int v_o_readHouses, .ref a_o_readHouse, .int v_o_readChildren, .ref a_o_readChild, .ref a_o_page, .ref a_o_trial, .ref a_o_book, .int v_o_acts, .ref a_o_kept, .ref a_o_isKept, .int v_o_seen, .ref a_o_seenHouse, .ref a_o_seenChild, .ref a_o_seenLived, .long v_o_seed, .int v_o_rollMost, .int v_o_rollSet, .int v_o_sideMany, .int v_o_sideOne, .int v_o_sideNone, .int v_o_wrongSides, .int v_o_wrongMany, .int v_o_restMany, .int v_o_restFirst, .ref a_o_gains, .ref a_o_value])), (a_o_text, .inl (cI, 48, .inl f_o_text))] [(a_o, .inr (6, [.int u.2.1, .ref a_o_text, .int u.2.2.1, .int v_o_place, .int v_o_houses, .ref a_o_worth, .int v_o_readHouses, .ref a_o_readHouse, .int v_o_readChildren, .ref a_o_readChild, .ref a_o_page, .ref a_o_trial, .ref a_o_book, .int v_o_acts, .ref a_o_kept, .ref a_o_isKept, .int v_o_seen, .ref a_o_seenHouse, .ref a_o_seenChild, .ref a_o_seenLived, .long v_o_seed, .int v_o_rollMost, .int v_o_rollSet, .int v_o_sideMany, .int v_o_sideOne, .int v_o_sideNone, .int v_o_wrongSides, .int v_o_wrongMany, .int v_o_restMany, .int v_o_restFirst, .ref a_o_gains, .ref a_o_value])), (a_o_text, .inl (cI, 48, .inl u.2.2.2))] u.1 := by
  refine kMi_of sg_X6_write ⟨rfl, rfl⟩ (Nat.le_of_ble_eq_true rfl) ?_
  intro p e s m args below meth c A H0 Q hx hb hml hown hts hK hN hA hend H locs ls hP hD hS hl
  have hl : lv_has ls 2 [(0, .ref a_o), (1, .int x1)] := hl
  have hk7 := hts (.fieldLink RX6 7 "YoungestHouseModel" "text" "[I") (by decide +kernel)
  have hk53 := hts (.fieldLink RX6 53 "YoungestHouseModel" "thrown" "I") (by decide +kernel)
  have hk66 := hts (.fieldLink RX6 66 "YoungestHouseModel" "textSize" "I") (by decide +kernel)
  unfold f_X6_write at hf
  refine lv_aload_n hx hb dX6_write_0 rfl (lv_at hl 0 rfl) ?_
  refine lv_iconst (v := (0 : Int32)) hx hb dX6_write_1 (by decide) ?_
  refine va_put (D := (dC, dI)) (ci := 6) (v := .int (0 : Int32)) (ty := .int) (C := RX6) (T := TX6) (N := 32) hx hb hts in_X6_write_X6 tyX6 tyX6_ok nmX6 hown hK hP hD hS 0 rfl rfl 0 (by decide) hk53 (fun _ h9 => h9) rfl (by decide +kernel) rfl rfl (Nat.le_of_ble_eq_true rfl) dX6_write_2 (fun H locs hP hD hS => ?_)
  have hP : va_P (dC, dI) vwCl [(a_o, .inr (6, [.int (0 : Int32), .ref a_o_text, .int v_o_textSize, .int v_o_place, .int v_o_houses, .ref a_o_worth, .int v_o_readHouses, .ref a_o_readHouse, .int v_o_readChildren, .ref a_o_readChild, .ref a_o_page, .ref a_o_trial, .ref a_o_book, .int v_o_acts, .ref a_o_kept, .ref a_o_isKept, .int v_o_seen, .ref a_o_seenHouse, .ref a_o_seenChild, .ref a_o_seenLived, .long v_o_seed, .int v_o_rollMost, .int v_o_rollSet, .int v_o_sideMany, .int v_o_sideOne, .int v_o_sideNone, .int v_o_wrongSides, .int v_o_wrongMany, .int v_o_restMany, .int v_o_restFirst, .ref a_o_gains, .ref a_o_value])), (a_o_text, .inl (cI, 48, .inl f_o_text))] H := hP
  have hD : va_D A [(a_o, .inr (6, [.int (0 : Int32), .ref a_o_text, .int v_o_textSize, .int v_o_place, .int v_o_houses, .ref a_o_worth, .int v_o_readHouses, .ref a_o_readHouse, .int v_o_readChildren, .ref a_o_readChild, .ref a_o_page, .ref a_o_trial, .ref a_o_book, .int v_o_acts, .ref a_o_kept, .ref a_o_isKept, .int v_o_seen, .ref a_o_seenHouse, .ref a_o_seenChild, .ref a_o_seenLived, .long v_o_seed, .int v_o_rollMost, .int v_o_rollSet, .int v_o_sideMany, .int v_o_sideOne, .int v_o_sideNone, .int v_o_wrongSides, .int v_o_wrongMany, .int v_o_restMany, .int v_o_restFirst, .ref a_o_gains, .ref a_o_value])), (a_o_text, .inl (cI, 48, .inl f_o_text))] := hD
  refine lv_iload_n hx hb dX6_write_5 rfl (lv_at hl 1 rfl) ?_
  refine lv_i2l (v := (x1).toInt64) hx hb dX6_write_6 rfl ?_
  refine lv_lconst (v := (0 : Int64)) hx hb dX6_write_7 (by decide) ?_
  refine lv_ldc2 (own := RX6) (v := (255 : Int64)) hx hb hown (hts (.constantLong RX6 64 (255 : Int64)) (by decide +kernel)) dX6_write_8 ?_
  obtain ⟨u1, hu1, hf⟩ := kb1_e hf
  refine kc_i (wn := [(a_o, .inr (6, [.int (0 : Int32), .ref a_o_text, .int v_o_textSize, .int v_o_place, .int v_o_houses, .ref a_o_worth, .int v_o_readHouses, .ref a_o_readHouse, .int v_o_readChildren, .ref a_o_readChild, .ref a_o_page, .ref a_o_trial, .ref a_o_book, .int v_o_acts, .ref a_o_kept, .ref a_o_isKept, .int v_o_seen, .ref a_o_seenHouse, .ref a_o_seenChild, .ref a_o_seenLived, .long v_o_seed, .int v_o_rollMost, .int v_o_rollSet, .int v_o_sideMany, .int v_o_sideOne, .int v_o_sideNone, .int v_o_wrongSides, .int v_o_wrongMany, .int v_o_restMany, .int v_o_restFirst, .ref a_o_gains, .ref a_o_value])), (a_o_text, .inl (cI, 48, .inl f_o_text))]) (wr := [(a_o, .inr (6, [.int (0 : Int32), .ref a_o_text, .int v_o_textSize, .int v_o_place, .int v_o_houses, .ref a_o_worth, .int v_o_readHouses, .ref a_o_readHouse, .int v_o_readChildren, .ref a_o_readChild, .ref a_o_page, .ref a_o_trial, .ref a_o_book, .int v_o_acts, .ref a_o_kept, .ref a_o_isKept, .int v_o_seen, .ref a_o_seenHouse, .ref a_o_seenChild, .ref a_o_seenLived, .long v_o_seed, .int v_o_rollMost, .int v_o_rollSet, .int v_o_sideMany, .int v_o_sideOne, .int v_o_sideNone, .int v_o_wrongSides, .int v_o_wrongMany, .int v_o_restMany, .int v_o_restFirst, .ref a_o_gains, .ref a_o_value])), (a_o_text, .inl (cI, 48, .inl f_o_text))]) (kr_T (As := [.long (x1).toInt64, .long (0 : Int64), .long (255 : Int64)]) (rest := []) ⟨hx, hb, hml, hown, hts⟩ hK hN hP hD hl.1 (c_X6_in l dC dI cI cZ ((x1).toInt64) (0 : Int64) (255 : Int64) u1 hu1 H.size) sg_X6_in ⟨rfl, rfl⟩ ⟨Nat.le_of_ble_eq_true rfl, Nat.le_of_ble_eq_true rfl⟩ gX6_write_X6_in [] (by decide +kernel) rfl rfl rfl (Nat.le_of_ble_eq_true rfl) dX6_write_11 ⟨Nat.zero_le _, Nat.zero_le _⟩) hA hP hD hS [] [0, 1] 2 rfl rfl rfl rfl rfl (by decide +kernel) (by decide +kernel) rfl (fun H locs hP hD hS => ?_)
  refine lv_if_ne (tgt := 20) hx hb dX6_write_14 (by decide) (fun c2 => ?_) (fun c2 => ?_)
  · replace hf := kf c2 hf
    refine lv_aload_n hx hb dX6_write_20 rfl (lv_at hl 0 rfl) ?_
    refine va_get (D := (dC, dI)) (ci := 6) (v := .int v_o_textSize) (C := RX6) (T := TX6) (N := 32) hx hb hts in_X6_write_X6 hown hK hP 0 rfl rfl 2 (by decide) hk66 (fun _ h9 => h9) rfl dX6_write_21 ?_
    refine lv_bipush (v := (48 : Int32)) hx hb dX6_write_24 (by decide) ?_
    refine lv_icmp_ne (tgt := 32) hx hb dX6_write_26 (by decide) (fun c3 => ?_) (fun c3 => ?_)
    · replace hf := kf c3 hf
      refine lv_aload_n hx hb dX6_write_32 rfl (lv_at hl 0 rfl) ?_
      refine va_get (D := (dC, dI)) (ci := 6) (v := .ref a_o_text) (C := RX6) (T := TX6) (N := 32) hx hb hts in_X6_write_X6 hown hK hP 0 rfl rfl 1 (by decide) hk7 (fun _ h9 => h9) rfl dX6_write_33 ?_
      refine lv_aload_n hx hb dX6_write_36 rfl (lv_at hl 0 rfl) ?_
      refine va_get (D := (dC, dI)) (ci := 6) (v := .int v_o_textSize) (C := RX6) (T := TX6) (N := 32) hx hb hts in_X6_write_X6 hown hK hP 0 rfl rfl 2 (by decide) hk66 (fun _ h9 => h9) rfl dX6_write_37 ?_
      refine lv_iload_n hx hb dX6_write_40 rfl (lv_at hl 1 rfl) ?_
      obtain ⟨hg4, hf⟩ := kg_e hf
      refine ka_ist (k := (v_o_textSize).toNatClampNeg) hx hb hK hP hD hS 1 0 rfl rfl (kin_e hg4) rfl dX6_write_41 (fun H locs hP hD hS => ?_)
      have hP : va_P (dC, dI) vwCl [(a_o, .inr (6, [.int (0 : Int32), .ref a_o_text, .int v_o_textSize, .int v_o_place, .int v_o_houses, .ref a_o_worth, .int v_o_readHouses, .ref a_o_readHouse, .int v_o_readChildren, .ref a_o_readChild, .ref a_o_page, .ref a_o_trial, .ref a_o_book, .int v_o_acts, .ref a_o_kept, .ref a_o_isKept, .int v_o_seen, .ref a_o_seenHouse, .ref a_o_seenChild, .ref a_o_seenLived, .long v_o_seed, .int v_o_rollMost, .int v_o_rollSet, .int v_o_sideMany, .int v_o_sideOne, .int v_o_sideNone, .int v_o_wrongSides, .int v_o_wrongMany, .int v_o_restMany, .int v_o_restFirst, .ref a_o_gains, .ref a_o_value])), (a_o_text, .inl (cI, 48, .inl (upd f_o_text ((v_o_textSize).toNatClampNeg) x1)))] H := hP
      have hD : va_D A [(a_o, .inr (6, [.int (0 : Int32), .ref a_o_text, .int v_o_textSize, .int v_o_place, .int v_o_houses, .ref a_o_worth, .int v_o_readHouses, .ref a_o_readHouse, .int v_o_readChildren, .ref a_o_readChild, .ref a_o_page, .ref a_o_trial, .ref a_o_book, .int v_o_acts, .ref a_o_kept, .ref a_o_isKept, .int v_o_seen, .ref a_o_seenHouse, .ref a_o_seenChild, .ref a_o_seenLived, .long v_o_seed, .int v_o_rollMost, .int v_o_rollSet, .int v_o_sideMany, .int v_o_sideOne, .int v_o_sideNone, .int v_o_wrongSides, .int v_o_wrongMany, .int v_o_restMany, .int v_o_restFirst, .ref a_o_gains, .ref a_o_value])), (a_o_text, .inl (cI, 48, .inl (upd f_o_text ((v_o_textSize).toNatClampNeg) x1)))] := hD
      refine lv_aload_n hx hb dX6_write_42 rfl (lv_at hl 0 rfl) ?_
      refine lv_dup hx hb dX6_write_43 rfl ?_
      refine va_get (D := (dC, dI)) (ci := 6) (v := .int v_o_textSize) (C := RX6) (T := TX6) (N := 32) hx hb hts in_X6_write_X6 hown hK hP 0 rfl rfl 2 (by decide) hk66 (fun _ h9 => h9) rfl dX6_write_44 ?_
      refine lv_iconst (v := (1 : Int32)) hx hb dX6_write_47 (by decide) ?_
      refine lv_iadd hx hb dX6_write_48 ?_
      refine va_put (D := (dC, dI)) (ci := 6) (v := .int (v_o_textSize + (1 : Int32))) (ty := .int) (C := RX6) (T := TX6) (N := 32) hx hb hts in_X6_write_X6 tyX6 tyX6_ok nmX6 hown hK hP hD hS 0 rfl rfl 2 (by decide) hk66 (fun _ h9 => h9) rfl (by decide +kernel) rfl rfl (Nat.le_of_ble_eq_true rfl) dX6_write_49 (fun H locs hP hD hS => ?_)
      have hP : va_P (dC, dI) vwCl [(a_o, .inr (6, [.int (0 : Int32), .ref a_o_text, .int (v_o_textSize + (1 : Int32)), .int v_o_place, .int v_o_houses, .ref a_o_worth, .int v_o_readHouses, .ref a_o_readHouse, .int v_o_readChildren, .ref a_o_readChild, .ref a_o_page, .ref a_o_trial, .ref a_o_book, .int v_o_acts, .ref a_o_kept, .ref a_o_isKept, .int v_o_seen, .ref a_o_seenHouse, .ref a_o_seenChild, .ref a_o_seenLived, .long v_o_seed, .int v_o_rollMost, .int v_o_rollSet, .int v_o_sideMany, .int v_o_sideOne, .int v_o_sideNone, .int v_o_wrongSides, .int v_o_wrongMany, .int v_o_restMany, .int v_o_restFirst, .ref a_o_gains, .ref a_o_value])), (a_o_text, .inl (cI, 48, .inl (upd f_o_text ((v_o_textSize).toNatClampNeg) x1)))] H := hP
      have hD : va_D A [(a_o, .inr (6, [.int (0 : Int32), .ref a_o_text, .int (v_o_textSize + (1 : Int32)), .int v_o_place, .int v_o_houses, .ref a_o_worth, .int v_o_readHouses, .ref a_o_readHouse, .int v_o_readChildren, .ref a_o_readChild, .ref a_o_page, .ref a_o_trial, .ref a_o_book, .int v_o_acts, .ref a_o_kept, .ref a_o_isKept, .int v_o_seen, .ref a_o_seenHouse, .ref a_o_seenChild, .ref a_o_seenLived, .long v_o_seed, .int v_o_rollMost, .int v_o_rollSet, .int v_o_sideMany, .int v_o_sideOne, .int v_o_sideNone, .int v_o_wrongSides, .int v_o_wrongMany, .int v_o_restMany, .int v_o_restFirst, .ref a_o_gains, .ref a_o_value])), (a_o_text, .inl (cI, 48, .inl (upd f_o_text ((v_o_textSize).toNatClampNeg) x1)))] := hD
      refine lv_aload_n hx hb dX6_write_52 rfl (lv_at hl 0 rfl) ?_
      refine va_get (D := (dC, dI)) (ci := 6) (v := .int (v_o_textSize + (1 : Int32))) (C := RX6) (T := TX6) (N := 32) hx hb hts in_X6_write_X6 hown hK hP 0 rfl rfl 2 (by decide) hk66 (fun _ h9 => h9) rfl dX6_write_53 ?_
      cases hf
      exact hend _ _ _ _ dX6_write_56 rfl hP hS
    · replace hf := kt c3 hf
      refine lv_bipush (v := (-4 : Int32)) hx hb dX6_write_29 (by decide) ?_
      cases hf
      exact hend _ _ _ _ dX6_write_31 rfl hP hS
  · replace hf := kt c2 hf
    refine lv_bipush (v := (-2 : Int32)) hx hb dX6_write_17 (by decide) ?_
    cases hf
    exact hend _ _ _ _ dX6_write_19 rfl hP hS
theorem sg_X6_wipe : kSig yX6_wipe wsX6_wipe cX6_wipe 2 (some .int) RX6 0 := ⟨⟨_, rfl⟩, rfl, by decide, by decide +kernel, by decide +kernel, by decide +kernel⟩
abbrev rm_X6_wipe : Room := { frames := 0, cells := 0, slots := 0, locals := 0 }
set_option maxRecDepth 20000 in
theorem in_X6_wipe_X6 : ∀ w ∈ u_ws RX6 TX6 32, w ∈ wsX6_wipe := by decide +kernel
set_option maxHeartbeats 4000000 in
set_option maxRecDepth 100000 in
theorem c_X6_wipe (l : Launch) (dC : Nat → ClassId) (dI : Nat → Nat → Nat) (cI cZ : ClassId) (a_o a_o_text a_o_worth a_o_readHouse a_o_readChild a_o_page a_o_trial a_o_book a_o_kept a_o_isKept a_o_seenHouse a_o_seenChild a_o_seenLived a_o_gains a_o_value : Nat) (v_o_thrown : Int32) (v_o_textSize : Int32) (v_o_place : Int32) (v_o_houses : Int32) (v_o_readHouses : Int32) (v_o_readChildren : Int32) (v_o_acts : Int32) (v_o_seen : Int32) (v_o_seed : Int64) (v_o_rollMost : Int32) (v_o_rollSet : Int32) (v_o_sideMany : Int32) (v_o_sideOne : Int32) (v_o_sideNone : Int32) (v_o_wrongSides : Int32) (v_o_wrongMany : Int32) (v_o_restMany : Int32) (v_o_restFirst : Int32)  (u : Int32 × Int32 × Int32) (hf : f_X6_wipe v_o_thrown v_o_textSize = some u) : kMi l yX6_wipe wsX6_wipe rm_X6_wipe (dC, dI) (kTy cI cZ) [.ref a_o] [(a_o, .inr (6, [.int v_o_thrown, .ref a_o_text, .int v_o_textSize, .int v_o_place, .int v_o_houses, .ref a_o_worth, .int v_o_readHouses, .ref a_o_readHouse, .int v_o_readChildren, .ref a_o_readChild, .ref a_o_page, .ref a_o_trial, .ref a_o_book, .int v_o_acts, .ref a_o_kept, .ref a_o_isKept, .int v_o_seen, .ref a_o_seenHouse, .ref a_o_seenChild, .ref a_o_seenLived, .long v_o_seed, .int v_o_rollMost, .int v_o_rollSet, .int v_o_sideMany, .int v_o_sideOne, .int v_o_sideNone, .int v_o_wrongSides, .int v_o_wrongMany, .int v_o_restMany, .int v_o_restFirst, .ref a_o_gains, .ref a_o_value]))] [(a_o, .inr (6, [.int u.2.1, .ref a_o_text, .int u.2.2, .int v_o_place, .int v_o_houses, .ref a_o_worth, .int v_o_readHouses, .ref a_o_readHouse, .int v_o_readChildren, .ref a_o_readChild, .ref a_o_page, .ref a_o_trial, .ref a_o_book, .int v_o_acts, .ref a_o_kept, .ref a_o_isKept, .int v_o_seen, .ref a_o_seenHouse, .ref a_o_seenChild, .ref a_o_seenLived, .long v_o_seed, .int v_o_rollMost, .int v_o_rollSet, .int v_o_sideMany, .int v_o_sideOne, .int v_o_sideNone, .int v_o_wrongSides, .int v_o_wrongMany, .int v_o_restMany, .int v_o_restFirst, .ref a_o_gains, .ref a_o_value]))] u.1 := by
  refine kMi_of sg_X6_wipe ⟨rfl, rfl⟩ (Nat.le_of_ble_eq_true rfl) ?_
  intro p e s m args below meth c A H0 Q hx hb hml hown hts hK hN hA hend H locs ls hP hD hS hl
  have hl : lv_has ls 2 [(0, .ref a_o)] := hl
  have hk53 := hts (.fieldLink RX6 53 "YoungestHouseModel" "thrown" "I") (by decide +kernel)
  have hk66 := hts (.fieldLink RX6 66 "YoungestHouseModel" "textSize" "I") (by decide +kernel)
  unfold f_X6_wipe at hf
  refine lv_aload_n hx hb dX6_wipe_0 rfl (lv_at hl 0 rfl) ?_
  refine lv_iconst (v := (0 : Int32)) hx hb dX6_wipe_1 (by decide) ?_
  refine va_put (D := (dC, dI)) (ci := 6) (v := .int (0 : Int32)) (ty := .int) (C := RX6) (T := TX6) (N := 32) hx hb hts in_X6_wipe_X6 tyX6 tyX6_ok nmX6 hown hK hP hD hS 0 rfl rfl 0 (by decide) hk53 (fun _ h9 => h9) rfl (by decide +kernel) rfl rfl (Nat.le_of_ble_eq_true rfl) dX6_wipe_2 (fun H locs hP hD hS => ?_)
  have hP : va_P (dC, dI) vwCl [(a_o, .inr (6, [.int (0 : Int32), .ref a_o_text, .int v_o_textSize, .int v_o_place, .int v_o_houses, .ref a_o_worth, .int v_o_readHouses, .ref a_o_readHouse, .int v_o_readChildren, .ref a_o_readChild, .ref a_o_page, .ref a_o_trial, .ref a_o_book, .int v_o_acts, .ref a_o_kept, .ref a_o_isKept, .int v_o_seen, .ref a_o_seenHouse, .ref a_o_seenChild, .ref a_o_seenLived, .long v_o_seed, .int v_o_rollMost, .int v_o_rollSet, .int v_o_sideMany, .int v_o_sideOne, .int v_o_sideNone, .int v_o_wrongSides, .int v_o_wrongMany, .int v_o_restMany, .int v_o_restFirst, .ref a_o_gains, .ref a_o_value]))] H := hP
  have hD : va_D A [(a_o, .inr (6, [.int (0 : Int32), .ref a_o_text, .int v_o_textSize, .int v_o_place, .int v_o_houses, .ref a_o_worth, .int v_o_readHouses, .ref a_o_readHouse, .int v_o_readChildren, .ref a_o_readChild, .ref a_o_page, .ref a_o_trial, .ref a_o_book, .int v_o_acts, .ref a_o_kept, .ref a_o_isKept, .int v_o_seen, .ref a_o_seenHouse, .ref a_o_seenChild, .ref a_o_seenLived, .long v_o_seed, .int v_o_rollMost, .int v_o_rollSet, .int v_o_sideMany, .int v_o_sideOne, .int v_o_sideNone, .int v_o_wrongSides, .int v_o_wrongMany, .int v_o_restMany, .int v_o_restFirst, .ref a_o_gains, .ref a_o_value]))] := hD
  refine lv_aload_n hx hb dX6_wipe_5 rfl (lv_at hl 0 rfl) ?_
  refine va_get (D := (dC, dI)) (ci := 6) (v := .int v_o_textSize) (C := RX6) (T := TX6) (N := 32) hx hb hts in_X6_wipe_X6 hown hK hP 0 rfl rfl 2 (by decide) hk66 (fun _ h9 => h9) rfl dX6_wipe_6 ?_
  refine lv_istore_n (lv' := [(1, .int v_o_textSize), (0, .ref a_o)]) hx hb dX6_wipe_9 rfl hl (by decide) rfl (fun ls hl => ?_)
  refine lv_aload_n hx hb dX6_wipe_10 rfl (lv_at hl 1 rfl) ?_
  refine lv_iconst (v := (0 : Int32)) hx hb dX6_wipe_11 (by decide) ?_
  refine va_put (D := (dC, dI)) (ci := 6) (v := .int (0 : Int32)) (ty := .int) (C := RX6) (T := TX6) (N := 32) hx hb hts in_X6_wipe_X6 tyX6 tyX6_ok nmX6 hown hK hP hD hS 0 rfl rfl 2 (by decide) hk66 (fun _ h9 => h9) rfl (by decide +kernel) rfl rfl (Nat.le_of_ble_eq_true rfl) dX6_wipe_12 (fun H locs hP hD hS => ?_)
  have hP : va_P (dC, dI) vwCl [(a_o, .inr (6, [.int (0 : Int32), .ref a_o_text, .int (0 : Int32), .int v_o_place, .int v_o_houses, .ref a_o_worth, .int v_o_readHouses, .ref a_o_readHouse, .int v_o_readChildren, .ref a_o_readChild, .ref a_o_page, .ref a_o_trial, .ref a_o_book, .int v_o_acts, .ref a_o_kept, .ref a_o_isKept, .int v_o_seen, .ref a_o_seenHouse, .ref a_o_seenChild, .ref a_o_seenLived, .long v_o_seed, .int v_o_rollMost, .int v_o_rollSet, .int v_o_sideMany, .int v_o_sideOne, .int v_o_sideNone, .int v_o_wrongSides, .int v_o_wrongMany, .int v_o_restMany, .int v_o_restFirst, .ref a_o_gains, .ref a_o_value]))] H := hP
  have hD : va_D A [(a_o, .inr (6, [.int (0 : Int32), .ref a_o_text, .int (0 : Int32), .int v_o_place, .int v_o_houses, .ref a_o_worth, .int v_o_readHouses, .ref a_o_readHouse, .int v_o_readChildren, .ref a_o_readChild, .ref a_o_page, .ref a_o_trial, .ref a_o_book, .int v_o_acts, .ref a_o_kept, .ref a_o_isKept, .int v_o_seen, .ref a_o_seenHouse, .ref a_o_seenChild, .ref a_o_seenLived, .long v_o_seed, .int v_o_rollMost, .int v_o_rollSet, .int v_o_sideMany, .int v_o_sideOne, .int v_o_sideNone, .int v_o_wrongSides, .int v_o_wrongMany, .int v_o_restMany, .int v_o_restFirst, .ref a_o_gains, .ref a_o_value]))] := hD
  refine lv_iload_n hx hb dX6_wipe_15 rfl (lv_at hl 0 rfl) ?_
  cases hf
  exact hend _ _ _ _ dX6_wipe_16 rfl hP hS
theorem sg_X6_figure : kSig yX6_figure wsX6_figure cX6_figure 3 (some .int) RX6 2 := ⟨⟨_, rfl⟩, rfl, by decide, by decide +kernel, by decide +kernel, by decide +kernel⟩
abbrev rm_X6_figure : Room := { frames := 1, cells := 0, slots := 0, locals := 25 }
set_option maxRecDepth 20000 in
theorem in_X6_figure_X6 : ∀ w ∈ u_ws RX6 TX6 32, w ∈ wsX6_figure := by decide +kernel
set_option maxHeartbeats 4000000 in
set_option maxRecDepth 100000 in
theorem c_X6_figure (l : Launch) (dC : Nat → ClassId) (dI : Nat → Nat → Nat) (cI cZ : ClassId) (a_o a_o_text a_o_worth a_o_readHouse a_o_readChild a_o_page a_o_trial a_o_book a_o_kept a_o_isKept a_o_seenHouse a_o_seenChild a_o_seenLived a_o_gains a_o_value : Nat) (v_o_thrown : Int32) (v_o_textSize : Int32) (v_o_place : Int32) (v_o_houses : Int32) (v_o_readHouses : Int32) (v_o_readChildren : Int32) (v_o_acts : Int32) (v_o_seen : Int32) (v_o_seed : Int64) (v_o_rollMost : Int32) (v_o_rollSet : Int32) (v_o_sideMany : Int32) (v_o_sideOne : Int32) (v_o_sideNone : Int32) (v_o_wrongSides : Int32) (v_o_wrongMany : Int32) (v_o_restMany : Int32) (v_o_restFirst : Int32) (f_o_text : Nat → Int32) (x1 : Int32) (x2 : Int32) (u : Int32 × Int32) (hf : f_X6_figure v_o_textSize f_o_text v_o_place x1 x2 = some u) : kMi l yX6_figure wsX6_figure rm_X6_figure (dC, dI) (kTy cI cZ) [.ref a_o, .int x1, .int x2] [(a_o, .inr (6, [.int v_o_thrown, .ref a_o_text, .int v_o_textSize, .int v_o_place, .int v_o_houses, .ref a_o_worth, .int v_o_readHouses, .ref a_o_readHouse, .int v_o_readChildren, .ref a_o_readChild, .ref a_o_page, .ref a_o_trial, .ref a_o_book, .int v_o_acts, .ref a_o_kept, .ref a_o_isKept, .int v_o_seen, .ref a_o_seenHouse, .ref a_o_seenChild, .ref a_o_seenLived, .long v_o_seed, .int v_o_rollMost, .int v_o_rollSet, .int v_o_sideMany, .int v_o_sideOne, .int v_o_sideNone, .int v_o_wrongSides, .int v_o_wrongMany, .int v_o_restMany, .int v_o_restFirst, .ref a_o_gains, .ref a_o_value])), (a_o_text, .inl (cI, 48, .inl f_o_text))] [(a_o, .inr (6, [.int v_o_thrown, .ref a_o_text, .int v_o_textSize, .int u.2, .int v_o_houses, .ref a_o_worth, .int v_o_readHouses, .ref a_o_readHouse, .int v_o_readChildren, .ref a_o_readChild, .ref a_o_page, .ref a_o_trial, .ref a_o_book, .int v_o_acts, .ref a_o_kept, .ref a_o_isKept, .int v_o_seen, .ref a_o_seenHouse, .ref a_o_seenChild, .ref a_o_seenLived, .long v_o_seed, .int v_o_rollMost, .int v_o_rollSet, .int v_o_sideMany, .int v_o_sideOne, .int v_o_sideNone, .int v_o_wrongSides, .int v_o_wrongMany, .int v_o_restMany, .int v_o_restFirst, .ref a_o_gains, .ref a_o_value])), (a_o_text, .inl (cI, 48, .inl f_o_text))] u.1 := by
  refine kMi_of sg_X6_figure ⟨rfl, rfl⟩ (Nat.le_of_ble_eq_true rfl) ?_
  intro p e s m args below meth c A H0 Q hx hb hml hown hts hK hN hA hend H locs ls hP hD hS hl
  have hl : lv_has ls 3 [(0, .ref a_o), (1, .int x1), (2, .int x2)] := hl
  have hk7 := hts (.fieldLink RX6 7 "YoungestHouseModel" "text" "[I") (by decide +kernel)
  have hk66 := hts (.fieldLink RX6 66 "YoungestHouseModel" "textSize" "I") (by decide +kernel)
  have hk69 := hts (.fieldLink RX6 69 "YoungestHouseModel" "place" "I") (by decide +kernel)
  unfold f_X6_figure at hf
  refine lv_aload_n hx hb dX6_figure_0 rfl (lv_at hl 0 rfl) ?_
  refine va_get (D := (dC, dI)) (ci := 6) (v := .int v_o_place) (C := RX6) (T := TX6) (N := 32) hx hb hts in_X6_figure_X6 hown hK hP 0 rfl rfl 3 (by decide) hk69 (fun _ h9 => h9) rfl dX6_figure_1 ?_
  refine lv_aload_n hx hb dX6_figure_4 rfl (lv_at hl 0 rfl) ?_
  refine va_get (D := (dC, dI)) (ci := 6) (v := .int v_o_textSize) (C := RX6) (T := TX6) (N := 32) hx hb hts in_X6_figure_X6 hown hK hP 0 rfl rfl 2 (by decide) hk66 (fun _ h9 => h9) rfl dX6_figure_5 ?_
  refine lv_icmp_eq (tgt := 34) hx hb dX6_figure_8 (by decide) (fun c1 => ?_) (fun c1 => ?_)
  · replace hf := kt c1 hf
    refine lv_bipush (v := (-9 : Int32)) hx hb dX6_figure_34 (by decide) ?_
    cases hf
    exact hend _ _ _ _ dX6_figure_36 rfl hP hS
  · replace hf := kf c1 hf
    refine lv_aload_n hx hb dX6_figure_11 rfl (lv_at hl 0 rfl) ?_
    refine va_get (D := (dC, dI)) (ci := 6) (v := .ref a_o_text) (C := RX6) (T := TX6) (N := 32) hx hb hts in_X6_figure_X6 hown hK hP 0 rfl rfl 1 (by decide) hk7 (fun _ h9 => h9) rfl dX6_figure_12 ?_
    refine lv_aload_n hx hb dX6_figure_15 rfl (lv_at hl 0 rfl) ?_
    refine va_get (D := (dC, dI)) (ci := 6) (v := .int v_o_place) (C := RX6) (T := TX6) (N := 32) hx hb hts in_X6_figure_X6 hown hK hP 0 rfl rfl 3 (by decide) hk69 (fun _ h9 => h9) rfl dX6_figure_16 ?_
    obtain ⟨hg2, hf⟩ := kg_e hf
    refine ka_ild (k := (v_o_place).toNatClampNeg) hx hb hK hP 1 0 rfl rfl (kin_e hg2) rfl dX6_figure_19 ?_
    refine lv_bipush (v := (48 : Int32)) hx hb dX6_figure_20 (by decide) ?_
    refine lv_isub hx hb dX6_figure_22 ?_
    refine lv_i2l (v := (((f_o_text (v_o_place).toNatClampNeg) - (48 : Int32))).toInt64) hx hb dX6_figure_23 rfl ?_
    refine lv_iload_n hx hb dX6_figure_24 rfl (lv_at hl 1 rfl) ?_
    refine lv_i2l (v := (x1).toInt64) hx hb dX6_figure_25 rfl ?_
    refine lv_iload_n hx hb dX6_figure_26 rfl (lv_at hl 2 rfl) ?_
    refine lv_i2l (v := (x2).toInt64) hx hb dX6_figure_27 rfl ?_
    obtain ⟨u3, hu3, hf⟩ := kb1_e hf
    refine kc_i (wn := [(a_o, .inr (6, [.int v_o_thrown, .ref a_o_text, .int v_o_textSize, .int v_o_place, .int v_o_houses, .ref a_o_worth, .int v_o_readHouses, .ref a_o_readHouse, .int v_o_readChildren, .ref a_o_readChild, .ref a_o_page, .ref a_o_trial, .ref a_o_book, .int v_o_acts, .ref a_o_kept, .ref a_o_isKept, .int v_o_seen, .ref a_o_seenHouse, .ref a_o_seenChild, .ref a_o_seenLived, .long v_o_seed, .int v_o_rollMost, .int v_o_rollSet, .int v_o_sideMany, .int v_o_sideOne, .int v_o_sideNone, .int v_o_wrongSides, .int v_o_wrongMany, .int v_o_restMany, .int v_o_restFirst, .ref a_o_gains, .ref a_o_value])), (a_o_text, .inl (cI, 48, .inl f_o_text))]) (wr := [(a_o, .inr (6, [.int v_o_thrown, .ref a_o_text, .int v_o_textSize, .int v_o_place, .int v_o_houses, .ref a_o_worth, .int v_o_readHouses, .ref a_o_readHouse, .int v_o_readChildren, .ref a_o_readChild, .ref a_o_page, .ref a_o_trial, .ref a_o_book, .int v_o_acts, .ref a_o_kept, .ref a_o_isKept, .int v_o_seen, .ref a_o_seenHouse, .ref a_o_seenChild, .ref a_o_seenLived, .long v_o_seed, .int v_o_rollMost, .int v_o_rollSet, .int v_o_sideMany, .int v_o_sideOne, .int v_o_sideNone, .int v_o_wrongSides, .int v_o_wrongMany, .int v_o_restMany, .int v_o_restFirst, .ref a_o_gains, .ref a_o_value])), (a_o_text, .inl (cI, 48, .inl f_o_text))]) (kr_T (As := [.long (((f_o_text (v_o_place).toNatClampNeg) - (48 : Int32))).toInt64, .long (x1).toInt64, .long (x2).toInt64]) (rest := []) ⟨hx, hb, hml, hown, hts⟩ hK hN hP hD hl.1 (c_X6_in l dC dI cI cZ ((((f_o_text (v_o_place).toNatClampNeg) - (48 : Int32))).toInt64) ((x1).toInt64) ((x2).toInt64) u3 hu3 H.size) sg_X6_in ⟨rfl, rfl⟩ ⟨Nat.le_of_ble_eq_true rfl, Nat.le_of_ble_eq_true rfl⟩ gX6_figure_X6_in [] (by decide +kernel) rfl rfl rfl (Nat.le_of_ble_eq_true rfl) dX6_figure_28 ⟨Nat.zero_le _, Nat.zero_le _⟩) hA hP hD hS [] [0, 1] 2 rfl rfl rfl rfl rfl (by decide +kernel) (by decide +kernel) rfl (fun H locs hP hD hS => ?_)
    refine lv_if_ne (tgt := 37) hx hb dX6_figure_31 (by decide) (fun c4 => ?_) (fun c4 => ?_)
    · replace hf := kf c4 hf
      refine lv_aload_n hx hb dX6_figure_37 rfl (lv_at hl 0 rfl) ?_
      refine lv_dup hx hb dX6_figure_38 rfl ?_
      refine va_get (D := (dC, dI)) (ci := 6) (v := .int v_o_place) (C := RX6) (T := TX6) (N := 32) hx hb hts in_X6_figure_X6 hown hK hP 0 rfl rfl 3 (by decide) hk69 (fun _ h9 => h9) rfl dX6_figure_39 ?_
      refine lv_iconst (v := (1 : Int32)) hx hb dX6_figure_42 (by decide) ?_
      refine lv_iadd hx hb dX6_figure_43 ?_
      refine va_put (D := (dC, dI)) (ci := 6) (v := .int (v_o_place + (1 : Int32))) (ty := .int) (C := RX6) (T := TX6) (N := 32) hx hb hts in_X6_figure_X6 tyX6 tyX6_ok nmX6 hown hK hP hD hS 0 rfl rfl 3 (by decide) hk69 (fun _ h9 => h9) rfl (by decide +kernel) rfl rfl (Nat.le_of_ble_eq_true rfl) dX6_figure_44 (fun H locs hP hD hS => ?_)
      have hP : va_P (dC, dI) vwCl [(a_o, .inr (6, [.int v_o_thrown, .ref a_o_text, .int v_o_textSize, .int (v_o_place + (1 : Int32)), .int v_o_houses, .ref a_o_worth, .int v_o_readHouses, .ref a_o_readHouse, .int v_o_readChildren, .ref a_o_readChild, .ref a_o_page, .ref a_o_trial, .ref a_o_book, .int v_o_acts, .ref a_o_kept, .ref a_o_isKept, .int v_o_seen, .ref a_o_seenHouse, .ref a_o_seenChild, .ref a_o_seenLived, .long v_o_seed, .int v_o_rollMost, .int v_o_rollSet, .int v_o_sideMany, .int v_o_sideOne, .int v_o_sideNone, .int v_o_wrongSides, .int v_o_wrongMany, .int v_o_restMany, .int v_o_restFirst, .ref a_o_gains, .ref a_o_value])), (a_o_text, .inl (cI, 48, .inl f_o_text))] H := hP
      have hD : va_D A [(a_o, .inr (6, [.int v_o_thrown, .ref a_o_text, .int v_o_textSize, .int (v_o_place + (1 : Int32)), .int v_o_houses, .ref a_o_worth, .int v_o_readHouses, .ref a_o_readHouse, .int v_o_readChildren, .ref a_o_readChild, .ref a_o_page, .ref a_o_trial, .ref a_o_book, .int v_o_acts, .ref a_o_kept, .ref a_o_isKept, .int v_o_seen, .ref a_o_seenHouse, .ref a_o_seenChild, .ref a_o_seenLived, .long v_o_seed, .int v_o_rollMost, .int v_o_rollSet, .int v_o_sideMany, .int v_o_sideOne, .int v_o_sideNone, .int v_o_wrongSides, .int v_o_wrongMany, .int v_o_restMany, .int v_o_restFirst, .ref a_o_gains, .ref a_o_value])), (a_o_text, .inl (cI, 48, .inl f_o_text))] := hD
      refine lv_aload_n hx hb dX6_figure_47 rfl (lv_at hl 0 rfl) ?_
      refine va_get (D := (dC, dI)) (ci := 6) (v := .ref a_o_text) (C := RX6) (T := TX6) (N := 32) hx hb hts in_X6_figure_X6 hown hK hP 0 rfl rfl 1 (by decide) hk7 (fun _ h9 => h9) rfl dX6_figure_48 ?_
      refine lv_aload_n hx hb dX6_figure_51 rfl (lv_at hl 0 rfl) ?_
      refine va_get (D := (dC, dI)) (ci := 6) (v := .int (v_o_place + (1 : Int32))) (C := RX6) (T := TX6) (N := 32) hx hb hts in_X6_figure_X6 hown hK hP 0 rfl rfl 3 (by decide) hk69 (fun _ h9 => h9) rfl dX6_figure_52 ?_
      refine lv_iconst (v := (1 : Int32)) hx hb dX6_figure_55 (by decide) ?_
      refine lv_isub hx hb dX6_figure_56 ?_
      obtain ⟨hg5, hf⟩ := kg_e hf
      refine ka_ild (k := (((v_o_place + (1 : Int32)) - (1 : Int32))).toNatClampNeg) hx hb hK hP 1 0 rfl rfl (kin_e hg5) rfl dX6_figure_57 ?_
      refine lv_bipush (v := (48 : Int32)) hx hb dX6_figure_58 (by decide) ?_
      refine lv_isub hx hb dX6_figure_60 ?_
      cases hf
      exact hend _ _ _ _ dX6_figure_61 rfl hP hS
    · replace hf := kt c4 hf
      refine lv_bipush (v := (-9 : Int32)) hx hb dX6_figure_34 (by decide) ?_
      cases hf
      exact hend _ _ _ _ dX6_figure_36 rfl hP hS
theorem sg_X6_readHouse : kSig yX6_readHouse wsX6_readHouse cX6_readHouse 3 (some .boolean) RX6 0 := ⟨⟨_, rfl⟩, rfl, by decide, by decide +kernel, by decide +kernel, by decide +kernel⟩
abbrev rm_X6_readHouse : Room := { frames := 2, cells := 0, slots := 0, locals := 47 }
set_option maxRecDepth 20000 in
theorem in_X6_readHouse_X6 : ∀ w ∈ u_ws RX6 TX6 32, w ∈ wsX6_readHouse := by decide +kernel
set_option maxHeartbeats 4000000 in
set_option maxRecDepth 100000 in
theorem c_X6_readHouse (l : Launch) (dC : Nat → ClassId) (dI : Nat → Nat → Nat) (cI cZ : ClassId) (a_o a_o_text a_o_worth a_o_readHouse a_o_readChild a_o_page a_o_trial a_o_book a_o_kept a_o_isKept a_o_seenHouse a_o_seenChild a_o_seenLived a_o_gains a_o_value : Nat) (v_o_thrown : Int32) (v_o_textSize : Int32) (v_o_place : Int32) (v_o_houses : Int32) (v_o_readHouses : Int32) (v_o_readChildren : Int32) (v_o_acts : Int32) (v_o_seen : Int32) (v_o_seed : Int64) (v_o_rollMost : Int32) (v_o_rollSet : Int32) (v_o_sideMany : Int32) (v_o_sideOne : Int32) (v_o_sideNone : Int32) (v_o_wrongSides : Int32) (v_o_wrongMany : Int32) (v_o_restMany : Int32) (v_o_restFirst : Int32) (f_o_text : Nat → Int32) (f_o_readHouse : Nat → Int32)  (u : Int32 × Int32 × Int32 × (Nat → Int32)) (hf : f_X6_readHouse v_o_textSize f_o_text v_o_place v_o_readHouses f_o_readHouse = some u) : kMi l yX6_readHouse wsX6_readHouse rm_X6_readHouse (dC, dI) (kTy cI cZ) [.ref a_o] [(a_o, .inr (6, [.int v_o_thrown, .ref a_o_text, .int v_o_textSize, .int v_o_place, .int v_o_houses, .ref a_o_worth, .int v_o_readHouses, .ref a_o_readHouse, .int v_o_readChildren, .ref a_o_readChild, .ref a_o_page, .ref a_o_trial, .ref a_o_book, .int v_o_acts, .ref a_o_kept, .ref a_o_isKept, .int v_o_seen, .ref a_o_seenHouse, .ref a_o_seenChild, .ref a_o_seenLived, .long v_o_seed, .int v_o_rollMost, .int v_o_rollSet, .int v_o_sideMany, .int v_o_sideOne, .int v_o_sideNone, .int v_o_wrongSides, .int v_o_wrongMany, .int v_o_restMany, .int v_o_restFirst, .ref a_o_gains, .ref a_o_value])), (a_o_text, .inl (cI, 48, .inl f_o_text)), (a_o_readHouse, .inl (cI, 6, .inl f_o_readHouse))] [(a_o, .inr (6, [.int v_o_thrown, .ref a_o_text, .int v_o_textSize, .int u.2.1, .int v_o_houses, .ref a_o_worth, .int u.2.2.1, .ref a_o_readHouse, .int v_o_readChildren, .ref a_o_readChild, .ref a_o_page, .ref a_o_trial, .ref a_o_book, .int v_o_acts, .ref a_o_kept, .ref a_o_isKept, .int v_o_seen, .ref a_o_seenHouse, .ref a_o_seenChild, .ref a_o_seenLived, .long v_o_seed, .int v_o_rollMost, .int v_o_rollSet, .int v_o_sideMany, .int v_o_sideOne, .int v_o_sideNone, .int v_o_wrongSides, .int v_o_wrongMany, .int v_o_restMany, .int v_o_restFirst, .ref a_o_gains, .ref a_o_value])), (a_o_text, .inl (cI, 48, .inl f_o_text)), (a_o_readHouse, .inl (cI, 6, .inl u.2.2.2))] u.1 := by
  refine kMi_of sg_X6_readHouse ⟨rfl, rfl⟩ (Nat.le_of_ble_eq_true rfl) ?_
  intro p e s m args below meth c A H0 Q hx hb hml hown hts hK hN hA hend H locs ls hP hD hS hl
  have hl : lv_has ls 3 [(0, .ref a_o)] := hl
  have hk16 := hts (.fieldLink RX6 16 "YoungestHouseModel" "readHouse" "[I") (by decide +kernel)
  have hk76 := hts (.fieldLink RX6 76 "YoungestHouseModel" "readHouses" "I") (by decide +kernel)
  have J_25 : ∀ (v_o_place : Int32) (v_o_readHouses : Int32) (f_o_readHouse : Nat → Int32) (x1 : Int32) (t0 : Int32) (H : Heap) (locs : List Loc) (ls : Array Slot), va_P (dC, dI) vwCl [(a_o, .inr (6, [.int v_o_thrown, .ref a_o_text, .int v_o_textSize, .int v_o_place, .int v_o_houses, .ref a_o_worth, .int v_o_readHouses, .ref a_o_readHouse, .int v_o_readChildren, .ref a_o_readChild, .ref a_o_page, .ref a_o_trial, .ref a_o_book, .int v_o_acts, .ref a_o_kept, .ref a_o_isKept, .int v_o_seen, .ref a_o_seenHouse, .ref a_o_seenChild, .ref a_o_seenLived, .long v_o_seed, .int v_o_rollMost, .int v_o_rollSet, .int v_o_sideMany, .int v_o_sideOne, .int v_o_sideNone, .int v_o_wrongSides, .int v_o_wrongMany, .int v_o_restMany, .int v_o_restFirst, .ref a_o_gains, .ref a_o_value])), (a_o_text, .inl (cI, 48, .inl f_o_text)), (a_o_readHouse, .inl (cI, 6, .inl f_o_readHouse))] H → va_D A [(a_o, .inr (6, [.int v_o_thrown, .ref a_o_text, .int v_o_textSize, .int v_o_place, .int v_o_houses, .ref a_o_worth, .int v_o_readHouses, .ref a_o_readHouse, .int v_o_readChildren, .ref a_o_readChild, .ref a_o_page, .ref a_o_trial, .ref a_o_book, .int v_o_acts, .ref a_o_kept, .ref a_o_isKept, .int v_o_seen, .ref a_o_seenHouse, .ref a_o_seenChild, .ref a_o_seenLived, .long v_o_seed, .int v_o_rollMost, .int v_o_rollSet, .int v_o_sideMany, .int v_o_sideOne, .int v_o_sideNone, .int v_o_wrongSides, .int v_o_wrongMany, .int v_o_restMany, .int v_o_restFirst, .ref a_o_gains, .ref a_o_value])), (a_o_text, .inl (cI, 48, .inl f_o_text)), (a_o_readHouse, .inl (cI, 6, .inl f_o_readHouse))] → va_S A H0 H locs → lv_has ls 3 [(0, .ref a_o), (1, .int x1)] → f_X6_readHouse_25 v_o_textSize f_o_text v_o_place v_o_readHouses f_o_readHouse x1 t0 = some u → W p l e rm_X6_readHouse s m args below meth c H locs 0 0 Q (F0 m 25 ls [.int t0]) := by
    intro v_o_place v_o_readHouses f_o_readHouse x1 t0 H locs ls hP hD hS hl hf
    unfold f_X6_readHouse_25 at hf
    refine lv_istore_n (lv' := [(2, .int t0), (0, .ref a_o), (1, .int x1)]) hx hb dX6_readHouse_25 rfl hl (by decide) rfl (fun ls hl => ?_)
    refine lv_iload_n hx hb dX6_readHouse_26 rfl (lv_at hl 0 rfl) ?_
    refine lv_bipush (v := (-9 : Int32)) hx hb dX6_readHouse_27 (by decide) ?_
    refine lv_icmp_ne (tgt := 34) hx hb dX6_readHouse_29 (by decide) (fun c1 => ?_) (fun c1 => ?_)
    · replace hf := kf c1 hf
      refine lv_aload_n hx hb dX6_readHouse_34 rfl (lv_at hl 1 rfl) ?_
      refine va_get (D := (dC, dI)) (ci := 6) (v := .ref a_o_readHouse) (C := RX6) (T := TX6) (N := 32) hx hb hts in_X6_readHouse_X6 hown hK hP 0 rfl rfl 7 (by decide) hk16 (fun _ h9 => h9) rfl dX6_readHouse_35 ?_
      refine lv_iconst (v := (2 : Int32)) hx hb dX6_readHouse_38 (by decide) ?_
      refine lv_aload_n hx hb dX6_readHouse_39 rfl (lv_at hl 1 rfl) ?_
      refine va_get (D := (dC, dI)) (ci := 6) (v := .int v_o_readHouses) (C := RX6) (T := TX6) (N := 32) hx hb hts in_X6_readHouse_X6 hown hK hP 0 rfl rfl 6 (by decide) hk76 (fun _ h9 => h9) rfl dX6_readHouse_40 ?_
      refine lv_imul hx hb dX6_readHouse_43 ?_
      refine lv_iload_n hx hb dX6_readHouse_44 rfl (lv_at hl 2 rfl) ?_
      obtain ⟨hg2, hf⟩ := kg_e hf
      refine ka_ist (k := (((2 : Int32) * v_o_readHouses)).toNatClampNeg) hx hb hK hP hD hS 2 0 rfl rfl (kin_e hg2) rfl dX6_readHouse_45 (fun H locs hP hD hS => ?_)
      have hP : va_P (dC, dI) vwCl [(a_o, .inr (6, [.int v_o_thrown, .ref a_o_text, .int v_o_textSize, .int v_o_place, .int v_o_houses, .ref a_o_worth, .int v_o_readHouses, .ref a_o_readHouse, .int v_o_readChildren, .ref a_o_readChild, .ref a_o_page, .ref a_o_trial, .ref a_o_book, .int v_o_acts, .ref a_o_kept, .ref a_o_isKept, .int v_o_seen, .ref a_o_seenHouse, .ref a_o_seenChild, .ref a_o_seenLived, .long v_o_seed, .int v_o_rollMost, .int v_o_rollSet, .int v_o_sideMany, .int v_o_sideOne, .int v_o_sideNone, .int v_o_wrongSides, .int v_o_wrongMany, .int v_o_restMany, .int v_o_restFirst, .ref a_o_gains, .ref a_o_value])), (a_o_text, .inl (cI, 48, .inl f_o_text)), (a_o_readHouse, .inl (cI, 6, .inl (upd f_o_readHouse ((((2 : Int32) * v_o_readHouses)).toNatClampNeg) x1)))] H := hP
      have hD : va_D A [(a_o, .inr (6, [.int v_o_thrown, .ref a_o_text, .int v_o_textSize, .int v_o_place, .int v_o_houses, .ref a_o_worth, .int v_o_readHouses, .ref a_o_readHouse, .int v_o_readChildren, .ref a_o_readChild, .ref a_o_page, .ref a_o_trial, .ref a_o_book, .int v_o_acts, .ref a_o_kept, .ref a_o_isKept, .int v_o_seen, .ref a_o_seenHouse, .ref a_o_seenChild, .ref a_o_seenLived, .long v_o_seed, .int v_o_rollMost, .int v_o_rollSet, .int v_o_sideMany, .int v_o_sideOne, .int v_o_sideNone, .int v_o_wrongSides, .int v_o_wrongMany, .int v_o_restMany, .int v_o_restFirst, .ref a_o_gains, .ref a_o_value])), (a_o_text, .inl (cI, 48, .inl f_o_text)), (a_o_readHouse, .inl (cI, 6, .inl (upd f_o_readHouse ((((2 : Int32) * v_o_readHouses)).toNatClampNeg) x1)))] := hD
      refine lv_aload_n hx hb dX6_readHouse_46 rfl (lv_at hl 1 rfl) ?_
      refine va_get (D := (dC, dI)) (ci := 6) (v := .ref a_o_readHouse) (C := RX6) (T := TX6) (N := 32) hx hb hts in_X6_readHouse_X6 hown hK hP 0 rfl rfl 7 (by decide) hk16 (fun _ h9 => h9) rfl dX6_readHouse_47 ?_
      refine lv_iconst (v := (2 : Int32)) hx hb dX6_readHouse_50 (by decide) ?_
      refine lv_aload_n hx hb dX6_readHouse_51 rfl (lv_at hl 1 rfl) ?_
      refine va_get (D := (dC, dI)) (ci := 6) (v := .int v_o_readHouses) (C := RX6) (T := TX6) (N := 32) hx hb hts in_X6_readHouse_X6 hown hK hP 0 rfl rfl 6 (by decide) hk76 (fun _ h9 => h9) rfl dX6_readHouse_52 ?_
      refine lv_imul hx hb dX6_readHouse_55 ?_
      refine lv_iconst (v := (1 : Int32)) hx hb dX6_readHouse_56 (by decide) ?_
      refine lv_iadd hx hb dX6_readHouse_57 ?_
      refine lv_iload_n hx hb dX6_readHouse_58 rfl (lv_at hl 0 rfl) ?_
      obtain ⟨hg3, hf⟩ := kg_e hf
      refine ka_ist (k := ((((2 : Int32) * v_o_readHouses) + (1 : Int32))).toNatClampNeg) hx hb hK hP hD hS 2 0 rfl rfl (kin_e hg3) rfl dX6_readHouse_59 (fun H locs hP hD hS => ?_)
      have hP : va_P (dC, dI) vwCl [(a_o, .inr (6, [.int v_o_thrown, .ref a_o_text, .int v_o_textSize, .int v_o_place, .int v_o_houses, .ref a_o_worth, .int v_o_readHouses, .ref a_o_readHouse, .int v_o_readChildren, .ref a_o_readChild, .ref a_o_page, .ref a_o_trial, .ref a_o_book, .int v_o_acts, .ref a_o_kept, .ref a_o_isKept, .int v_o_seen, .ref a_o_seenHouse, .ref a_o_seenChild, .ref a_o_seenLived, .long v_o_seed, .int v_o_rollMost, .int v_o_rollSet, .int v_o_sideMany, .int v_o_sideOne, .int v_o_sideNone, .int v_o_wrongSides, .int v_o_wrongMany, .int v_o_restMany, .int v_o_restFirst, .ref a_o_gains, .ref a_o_value])), (a_o_text, .inl (cI, 48, .inl f_o_text)), (a_o_readHouse, .inl (cI, 6, .inl (upd (upd f_o_readHouse ((((2 : Int32) * v_o_readHouses)).toNatClampNeg) x1) (((((2 : Int32) * v_o_readHouses) + (1 : Int32))).toNatClampNeg) t0)))] H := hP
      have hD : va_D A [(a_o, .inr (6, [.int v_o_thrown, .ref a_o_text, .int v_o_textSize, .int v_o_place, .int v_o_houses, .ref a_o_worth, .int v_o_readHouses, .ref a_o_readHouse, .int v_o_readChildren, .ref a_o_readChild, .ref a_o_page, .ref a_o_trial, .ref a_o_book, .int v_o_acts, .ref a_o_kept, .ref a_o_isKept, .int v_o_seen, .ref a_o_seenHouse, .ref a_o_seenChild, .ref a_o_seenLived, .long v_o_seed, .int v_o_rollMost, .int v_o_rollSet, .int v_o_sideMany, .int v_o_sideOne, .int v_o_sideNone, .int v_o_wrongSides, .int v_o_wrongMany, .int v_o_restMany, .int v_o_restFirst, .ref a_o_gains, .ref a_o_value])), (a_o_text, .inl (cI, 48, .inl f_o_text)), (a_o_readHouse, .inl (cI, 6, .inl (upd (upd f_o_readHouse ((((2 : Int32) * v_o_readHouses)).toNatClampNeg) x1) (((((2 : Int32) * v_o_readHouses) + (1 : Int32))).toNatClampNeg) t0)))] := hD
      refine lv_aload_n hx hb dX6_readHouse_60 rfl (lv_at hl 1 rfl) ?_
      refine lv_dup hx hb dX6_readHouse_61 rfl ?_
      refine va_get (D := (dC, dI)) (ci := 6) (v := .int v_o_readHouses) (C := RX6) (T := TX6) (N := 32) hx hb hts in_X6_readHouse_X6 hown hK hP 0 rfl rfl 6 (by decide) hk76 (fun _ h9 => h9) rfl dX6_readHouse_62 ?_
      refine lv_iconst (v := (1 : Int32)) hx hb dX6_readHouse_65 (by decide) ?_
      refine lv_iadd hx hb dX6_readHouse_66 ?_
      refine va_put (D := (dC, dI)) (ci := 6) (v := .int (v_o_readHouses + (1 : Int32))) (ty := .int) (C := RX6) (T := TX6) (N := 32) hx hb hts in_X6_readHouse_X6 tyX6 tyX6_ok nmX6 hown hK hP hD hS 0 rfl rfl 6 (by decide) hk76 (fun _ h9 => h9) rfl (by decide +kernel) rfl rfl (Nat.le_of_ble_eq_true rfl) dX6_readHouse_67 (fun H locs hP hD hS => ?_)
      have hP : va_P (dC, dI) vwCl [(a_o, .inr (6, [.int v_o_thrown, .ref a_o_text, .int v_o_textSize, .int v_o_place, .int v_o_houses, .ref a_o_worth, .int (v_o_readHouses + (1 : Int32)), .ref a_o_readHouse, .int v_o_readChildren, .ref a_o_readChild, .ref a_o_page, .ref a_o_trial, .ref a_o_book, .int v_o_acts, .ref a_o_kept, .ref a_o_isKept, .int v_o_seen, .ref a_o_seenHouse, .ref a_o_seenChild, .ref a_o_seenLived, .long v_o_seed, .int v_o_rollMost, .int v_o_rollSet, .int v_o_sideMany, .int v_o_sideOne, .int v_o_sideNone, .int v_o_wrongSides, .int v_o_wrongMany, .int v_o_restMany, .int v_o_restFirst, .ref a_o_gains, .ref a_o_value])), (a_o_text, .inl (cI, 48, .inl f_o_text)), (a_o_readHouse, .inl (cI, 6, .inl (upd (upd f_o_readHouse ((((2 : Int32) * v_o_readHouses)).toNatClampNeg) x1) (((((2 : Int32) * v_o_readHouses) + (1 : Int32))).toNatClampNeg) t0)))] H := hP
      have hD : va_D A [(a_o, .inr (6, [.int v_o_thrown, .ref a_o_text, .int v_o_textSize, .int v_o_place, .int v_o_houses, .ref a_o_worth, .int (v_o_readHouses + (1 : Int32)), .ref a_o_readHouse, .int v_o_readChildren, .ref a_o_readChild, .ref a_o_page, .ref a_o_trial, .ref a_o_book, .int v_o_acts, .ref a_o_kept, .ref a_o_isKept, .int v_o_seen, .ref a_o_seenHouse, .ref a_o_seenChild, .ref a_o_seenLived, .long v_o_seed, .int v_o_rollMost, .int v_o_rollSet, .int v_o_sideMany, .int v_o_sideOne, .int v_o_sideNone, .int v_o_wrongSides, .int v_o_wrongMany, .int v_o_restMany, .int v_o_restFirst, .ref a_o_gains, .ref a_o_value])), (a_o_text, .inl (cI, 48, .inl f_o_text)), (a_o_readHouse, .inl (cI, 6, .inl (upd (upd f_o_readHouse ((((2 : Int32) * v_o_readHouses)).toNatClampNeg) x1) (((((2 : Int32) * v_o_readHouses) + (1 : Int32))).toNatClampNeg) t0)))] := hD
      refine lv_iconst (v := (1 : Int32)) hx hb dX6_readHouse_70 (by decide) ?_
      cases hf
      exact hend _ _ _ _ dX6_readHouse_71 (show narrow FieldType.boolean (Value.int (1 : Int32)) = Value.int (1 : Int32) from rfl) hP hS
    · replace hf := kt c1 hf
      refine lv_iconst (v := (0 : Int32)) hx hb dX6_readHouse_32 (by decide) ?_
      cases hf
      exact hend _ _ _ _ dX6_readHouse_33 (show narrow FieldType.boolean (Value.int (0 : Int32)) = Value.int (0 : Int32) from rfl) hP hS
  unfold f_X6_readHouse at hf
  refine lv_aload_n hx hb dX6_readHouse_0 rfl (lv_at hl 0 rfl) ?_
  refine lv_iconst (v := (0 : Int32)) hx hb dX6_readHouse_1 (by decide) ?_
  refine lv_iconst (v := (1 : Int32)) hx hb dX6_readHouse_2 (by decide) ?_
  obtain ⟨u4, hu4, hf⟩ := kb1_e hf
  refine kc_i (wn := [(a_o, .inr (6, [.int v_o_thrown, .ref a_o_text, .int v_o_textSize, .int u4.2, .int v_o_houses, .ref a_o_worth, .int v_o_readHouses, .ref a_o_readHouse, .int v_o_readChildren, .ref a_o_readChild, .ref a_o_page, .ref a_o_trial, .ref a_o_book, .int v_o_acts, .ref a_o_kept, .ref a_o_isKept, .int v_o_seen, .ref a_o_seenHouse, .ref a_o_seenChild, .ref a_o_seenLived, .long v_o_seed, .int v_o_rollMost, .int v_o_rollSet, .int v_o_sideMany, .int v_o_sideOne, .int v_o_sideNone, .int v_o_wrongSides, .int v_o_wrongMany, .int v_o_restMany, .int v_o_restFirst, .ref a_o_gains, .ref a_o_value])), (a_o_text, .inl (cI, 48, .inl f_o_text)), (a_o_readHouse, .inl (cI, 6, .inl f_o_readHouse))]) (wr := [(a_o_readHouse, .inl (cI, 6, .inl f_o_readHouse))]) (kr_V (As := [.int (0 : Int32), .int (1 : Int32)]) (rest := []) ⟨hx, hb, hml, hown, hts⟩ hK hN hP hD hl.1 (c_X6_figure l dC dI cI cZ a_o a_o_text a_o_worth a_o_readHouse a_o_readChild a_o_page a_o_trial a_o_book a_o_kept a_o_isKept a_o_seenHouse a_o_seenChild a_o_seenLived a_o_gains a_o_value v_o_thrown v_o_textSize v_o_place v_o_houses v_o_readHouses v_o_readChildren v_o_acts v_o_seen v_o_seed v_o_rollMost v_o_rollSet v_o_sideMany v_o_sideOne v_o_sideNone v_o_wrongSides v_o_wrongMany v_o_restMany v_o_restFirst f_o_text (0 : Int32) (1 : Int32) u4 hu4 H.size) sg_X6_figure ⟨rfl, rfl⟩ ⟨Nat.le_of_ble_eq_true rfl, Nat.le_of_ble_eq_true rfl⟩ gX6_readHouse_X6_figure 0 rfl rfl rfl [0, 1] (by decide +kernel) rfl rfl rfl (Nat.le_of_ble_eq_true rfl) dX6_readHouse_3 ⟨Nat.zero_le _, Nat.zero_le _⟩) hA hP hD hS [0, 1] [2] 3 rfl rfl rfl rfl rfl (by decide +kernel) (by decide +kernel) rfl (fun H locs hP hD hS => ?_)
  refine lv_istore_n (lv' := [(1, .int u4.1), (0, .ref a_o)]) hx hb dX6_readHouse_6 rfl hl (by decide) rfl (fun ls hl => ?_)
  refine lv_iload_n hx hb dX6_readHouse_7 rfl (lv_at hl 0 rfl) ?_
  refine lv_bipush (v := (-9 : Int32)) hx hb dX6_readHouse_8 (by decide) ?_
  refine lv_icmp_ne (tgt := 18) hx hb dX6_readHouse_10 (by decide) (fun c5 => ?_) (fun c5 => ?_)
  · replace hf := kf c5 hf
    refine lv_aload_n hx hb dX6_readHouse_18 rfl (lv_at hl 1 rfl) ?_
    refine lv_iconst (v := (1 : Int32)) hx hb dX6_readHouse_19 (by decide) ?_
    refine lv_bipush (v := (9 : Int32)) hx hb dX6_readHouse_20 (by decide) ?_
    obtain ⟨u6, hu6, hf⟩ := kb1_e hf
    refine kc_i (wn := [(a_o, .inr (6, [.int v_o_thrown, .ref a_o_text, .int v_o_textSize, .int u6.2, .int v_o_houses, .ref a_o_worth, .int v_o_readHouses, .ref a_o_readHouse, .int v_o_readChildren, .ref a_o_readChild, .ref a_o_page, .ref a_o_trial, .ref a_o_book, .int v_o_acts, .ref a_o_kept, .ref a_o_isKept, .int v_o_seen, .ref a_o_seenHouse, .ref a_o_seenChild, .ref a_o_seenLived, .long v_o_seed, .int v_o_rollMost, .int v_o_rollSet, .int v_o_sideMany, .int v_o_sideOne, .int v_o_sideNone, .int v_o_wrongSides, .int v_o_wrongMany, .int v_o_restMany, .int v_o_restFirst, .ref a_o_gains, .ref a_o_value])), (a_o_text, .inl (cI, 48, .inl f_o_text)), (a_o_readHouse, .inl (cI, 6, .inl f_o_readHouse))]) (wr := [(a_o_readHouse, .inl (cI, 6, .inl f_o_readHouse))]) (kr_V (As := [.int (1 : Int32), .int (9 : Int32)]) (rest := []) ⟨hx, hb, hml, hown, hts⟩ hK hN hP hD hl.1 (c_X6_figure l dC dI cI cZ a_o a_o_text a_o_worth a_o_readHouse a_o_readChild a_o_page a_o_trial a_o_book a_o_kept a_o_isKept a_o_seenHouse a_o_seenChild a_o_seenLived a_o_gains a_o_value v_o_thrown v_o_textSize u4.2 v_o_houses v_o_readHouses v_o_readChildren v_o_acts v_o_seen v_o_seed v_o_rollMost v_o_rollSet v_o_sideMany v_o_sideOne v_o_sideNone v_o_wrongSides v_o_wrongMany v_o_restMany v_o_restFirst f_o_text (1 : Int32) (9 : Int32) u6 hu6 H.size) sg_X6_figure ⟨rfl, rfl⟩ ⟨Nat.le_of_ble_eq_true rfl, Nat.le_of_ble_eq_true rfl⟩ gX6_readHouse_X6_figure 0 rfl rfl rfl [0, 1] (by decide +kernel) rfl rfl rfl (Nat.le_of_ble_eq_true rfl) dX6_readHouse_22 ⟨Nat.zero_le _, Nat.zero_le _⟩) hA hP hD hS [0, 1] [2] 3 rfl rfl rfl rfl rfl (by decide +kernel) (by decide +kernel) rfl (fun H locs hP hD hS => ?_)
    exact J_25 u6.2 v_o_readHouses f_o_readHouse u4.1 u6.1 H locs ls hP hD hS (lv_sub hl [1, 0] rfl) hf
  · replace hf := kt c5 hf
    refine lv_bipush (v := (-9 : Int32)) hx hb dX6_readHouse_13 (by decide) ?_
    refine lv_goto (tgt := 25) hx hb dX6_readHouse_15 (by decide) ?_
    exact J_25 u4.2 v_o_readHouses f_o_readHouse u4.1 (-9 : Int32) H locs ls hP hD hS (lv_sub hl [1, 0] rfl) hf
theorem sg_X6_readChild : kSig yX6_readChild wsX6_readChild cX6_readChild 4 (some .boolean) RX6 0 := ⟨⟨_, rfl⟩, rfl, by decide, by decide +kernel, by decide +kernel, by decide +kernel⟩
abbrev rm_X6_readChild : Room := { frames := 2, cells := 0, slots := 0, locals := 47 }
set_option maxRecDepth 20000 in
theorem in_X6_readChild_X6 : ∀ w ∈ u_ws RX6 TX6 32, w ∈ wsX6_readChild := by decide +kernel
set_option maxHeartbeats 4000000 in
set_option maxRecDepth 100000 in
theorem c_X6_readChild (l : Launch) (dC : Nat → ClassId) (dI : Nat → Nat → Nat) (cI cZ : ClassId) (a_o a_o_text a_o_worth a_o_readHouse a_o_readChild a_o_page a_o_trial a_o_book a_o_kept a_o_isKept a_o_seenHouse a_o_seenChild a_o_seenLived a_o_gains a_o_value : Nat) (v_o_thrown : Int32) (v_o_textSize : Int32) (v_o_place : Int32) (v_o_houses : Int32) (v_o_readHouses : Int32) (v_o_readChildren : Int32) (v_o_acts : Int32) (v_o_seen : Int32) (v_o_seed : Int64) (v_o_rollMost : Int32) (v_o_rollSet : Int32) (v_o_sideMany : Int32) (v_o_sideOne : Int32) (v_o_sideNone : Int32) (v_o_wrongSides : Int32) (v_o_wrongMany : Int32) (v_o_restMany : Int32) (v_o_restFirst : Int32) (f_o_text : Nat → Int32) (f_o_readChild : Nat → Int32)  (u : Int32 × Int32 × Int32 × (Nat → Int32)) (hf : f_X6_readChild v_o_textSize v_o_readHouses f_o_text v_o_place v_o_readChildren f_o_readChild = some u) : kMi l yX6_readChild wsX6_readChild rm_X6_readChild (dC, dI) (kTy cI cZ) [.ref a_o] [(a_o, .inr (6, [.int v_o_thrown, .ref a_o_text, .int v_o_textSize, .int v_o_place, .int v_o_houses, .ref a_o_worth, .int v_o_readHouses, .ref a_o_readHouse, .int v_o_readChildren, .ref a_o_readChild, .ref a_o_page, .ref a_o_trial, .ref a_o_book, .int v_o_acts, .ref a_o_kept, .ref a_o_isKept, .int v_o_seen, .ref a_o_seenHouse, .ref a_o_seenChild, .ref a_o_seenLived, .long v_o_seed, .int v_o_rollMost, .int v_o_rollSet, .int v_o_sideMany, .int v_o_sideOne, .int v_o_sideNone, .int v_o_wrongSides, .int v_o_wrongMany, .int v_o_restMany, .int v_o_restFirst, .ref a_o_gains, .ref a_o_value])), (a_o_text, .inl (cI, 48, .inl f_o_text)), (a_o_readChild, .inl (cI, 18, .inl f_o_readChild))] [(a_o, .inr (6, [.int v_o_thrown, .ref a_o_text, .int v_o_textSize, .int u.2.1, .int v_o_houses, .ref a_o_worth, .int v_o_readHouses, .ref a_o_readHouse, .int u.2.2.1, .ref a_o_readChild, .ref a_o_page, .ref a_o_trial, .ref a_o_book, .int v_o_acts, .ref a_o_kept, .ref a_o_isKept, .int v_o_seen, .ref a_o_seenHouse, .ref a_o_seenChild, .ref a_o_seenLived, .long v_o_seed, .int v_o_rollMost, .int v_o_rollSet, .int v_o_sideMany, .int v_o_sideOne, .int v_o_sideNone, .int v_o_wrongSides, .int v_o_wrongMany, .int v_o_restMany, .int v_o_restFirst, .ref a_o_gains, .ref a_o_value])), (a_o_text, .inl (cI, 48, .inl f_o_text)), (a_o_readChild, .inl (cI, 18, .inl u.2.2.2))] u.1 := by
  refine kMi_of sg_X6_readChild ⟨rfl, rfl⟩ (Nat.le_of_ble_eq_true rfl) ?_
  intro p e s m args below meth c A H0 Q hx hb hml hown hts hK hN hA hend H locs ls hP hD hS hl
  have hl : lv_has ls 4 [(0, .ref a_o)] := hl
  have hk19 := hts (.fieldLink RX6 19 "YoungestHouseModel" "readChild" "[I") (by decide +kernel)
  have hk76 := hts (.fieldLink RX6 76 "YoungestHouseModel" "readHouses" "I") (by decide +kernel)
  have hk79 := hts (.fieldLink RX6 79 "YoungestHouseModel" "readChildren" "I") (by decide +kernel)
  have J_48 : ∀ (v_o_place : Int32) (v_o_readChildren : Int32) (f_o_readChild : Nat → Int32) (x1 : Int32) (x2 : Int32) (t0 : Int32) (H : Heap) (locs : List Loc) (ls : Array Slot), va_P (dC, dI) vwCl [(a_o, .inr (6, [.int v_o_thrown, .ref a_o_text, .int v_o_textSize, .int v_o_place, .int v_o_houses, .ref a_o_worth, .int v_o_readHouses, .ref a_o_readHouse, .int v_o_readChildren, .ref a_o_readChild, .ref a_o_page, .ref a_o_trial, .ref a_o_book, .int v_o_acts, .ref a_o_kept, .ref a_o_isKept, .int v_o_seen, .ref a_o_seenHouse, .ref a_o_seenChild, .ref a_o_seenLived, .long v_o_seed, .int v_o_rollMost, .int v_o_rollSet, .int v_o_sideMany, .int v_o_sideOne, .int v_o_sideNone, .int v_o_wrongSides, .int v_o_wrongMany, .int v_o_restMany, .int v_o_restFirst, .ref a_o_gains, .ref a_o_value])), (a_o_text, .inl (cI, 48, .inl f_o_text)), (a_o_readChild, .inl (cI, 18, .inl f_o_readChild))] H → va_D A [(a_o, .inr (6, [.int v_o_thrown, .ref a_o_text, .int v_o_textSize, .int v_o_place, .int v_o_houses, .ref a_o_worth, .int v_o_readHouses, .ref a_o_readHouse, .int v_o_readChildren, .ref a_o_readChild, .ref a_o_page, .ref a_o_trial, .ref a_o_book, .int v_o_acts, .ref a_o_kept, .ref a_o_isKept, .int v_o_seen, .ref a_o_seenHouse, .ref a_o_seenChild, .ref a_o_seenLived, .long v_o_seed, .int v_o_rollMost, .int v_o_rollSet, .int v_o_sideMany, .int v_o_sideOne, .int v_o_sideNone, .int v_o_wrongSides, .int v_o_wrongMany, .int v_o_restMany, .int v_o_restFirst, .ref a_o_gains, .ref a_o_value])), (a_o_text, .inl (cI, 48, .inl f_o_text)), (a_o_readChild, .inl (cI, 18, .inl f_o_readChild))] → va_S A H0 H locs → lv_has ls 4 [(0, .ref a_o), (1, .int x1), (2, .int x2)] → f_X6_readChild_48 v_o_textSize v_o_readHouses f_o_text v_o_place v_o_readChildren f_o_readChild x1 x2 t0 = some u → W p l e rm_X6_readChild s m args below meth c H locs 0 0 Q (F0 m 48 ls [.int t0]) := by
    intro v_o_place v_o_readChildren f_o_readChild x1 x2 t0 H locs ls hP hD hS hl hf
    unfold f_X6_readChild_48 at hf
    refine lv_istore_n (lv' := [(3, .int t0), (0, .ref a_o), (1, .int x1), (2, .int x2)]) hx hb dX6_readChild_48 rfl hl (by decide) rfl (fun ls hl => ?_)
    refine lv_iload_n hx hb dX6_readChild_49 rfl (lv_at hl 0 rfl) ?_
    refine lv_bipush (v := (-9 : Int32)) hx hb dX6_readChild_50 (by decide) ?_
    refine lv_icmp_ne (tgt := 57) hx hb dX6_readChild_52 (by decide) (fun c1 => ?_) (fun c1 => ?_)
    · replace hf := kf c1 hf
      refine lv_aload_n hx hb dX6_readChild_57 rfl (lv_at hl 1 rfl) ?_
      refine va_get (D := (dC, dI)) (ci := 6) (v := .ref a_o_readChild) (C := RX6) (T := TX6) (N := 32) hx hb hts in_X6_readChild_X6 hown hK hP 0 rfl rfl 9 (by decide) hk19 (fun _ h9 => h9) rfl dX6_readChild_58 ?_
      refine lv_iconst (v := (3 : Int32)) hx hb dX6_readChild_61 (by decide) ?_
      refine lv_aload_n hx hb dX6_readChild_62 rfl (lv_at hl 1 rfl) ?_
      refine va_get (D := (dC, dI)) (ci := 6) (v := .int v_o_readChildren) (C := RX6) (T := TX6) (N := 32) hx hb hts in_X6_readChild_X6 hown hK hP 0 rfl rfl 8 (by decide) hk79 (fun _ h9 => h9) rfl dX6_readChild_63 ?_
      refine lv_imul hx hb dX6_readChild_66 ?_
      refine lv_iload_n hx hb dX6_readChild_67 rfl (lv_at hl 2 rfl) ?_
      obtain ⟨hg2, hf⟩ := kg_e hf
      refine ka_ist (k := (((3 : Int32) * v_o_readChildren)).toNatClampNeg) hx hb hK hP hD hS 2 0 rfl rfl (kin_e hg2) rfl dX6_readChild_68 (fun H locs hP hD hS => ?_)
      have hP : va_P (dC, dI) vwCl [(a_o, .inr (6, [.int v_o_thrown, .ref a_o_text, .int v_o_textSize, .int v_o_place, .int v_o_houses, .ref a_o_worth, .int v_o_readHouses, .ref a_o_readHouse, .int v_o_readChildren, .ref a_o_readChild, .ref a_o_page, .ref a_o_trial, .ref a_o_book, .int v_o_acts, .ref a_o_kept, .ref a_o_isKept, .int v_o_seen, .ref a_o_seenHouse, .ref a_o_seenChild, .ref a_o_seenLived, .long v_o_seed, .int v_o_rollMost, .int v_o_rollSet, .int v_o_sideMany, .int v_o_sideOne, .int v_o_sideNone, .int v_o_wrongSides, .int v_o_wrongMany, .int v_o_restMany, .int v_o_restFirst, .ref a_o_gains, .ref a_o_value])), (a_o_text, .inl (cI, 48, .inl f_o_text)), (a_o_readChild, .inl (cI, 18, .inl (upd f_o_readChild ((((3 : Int32) * v_o_readChildren)).toNatClampNeg) x1)))] H := hP
      have hD : va_D A [(a_o, .inr (6, [.int v_o_thrown, .ref a_o_text, .int v_o_textSize, .int v_o_place, .int v_o_houses, .ref a_o_worth, .int v_o_readHouses, .ref a_o_readHouse, .int v_o_readChildren, .ref a_o_readChild, .ref a_o_page, .ref a_o_trial, .ref a_o_book, .int v_o_acts, .ref a_o_kept, .ref a_o_isKept, .int v_o_seen, .ref a_o_seenHouse, .ref a_o_seenChild, .ref a_o_seenLived, .long v_o_seed, .int v_o_rollMost, .int v_o_rollSet, .int v_o_sideMany, .int v_o_sideOne, .int v_o_sideNone, .int v_o_wrongSides, .int v_o_wrongMany, .int v_o_restMany, .int v_o_restFirst, .ref a_o_gains, .ref a_o_value])), (a_o_text, .inl (cI, 48, .inl f_o_text)), (a_o_readChild, .inl (cI, 18, .inl (upd f_o_readChild ((((3 : Int32) * v_o_readChildren)).toNatClampNeg) x1)))] := hD
      refine lv_aload_n hx hb dX6_readChild_69 rfl (lv_at hl 1 rfl) ?_
      refine va_get (D := (dC, dI)) (ci := 6) (v := .ref a_o_readChild) (C := RX6) (T := TX6) (N := 32) hx hb hts in_X6_readChild_X6 hown hK hP 0 rfl rfl 9 (by decide) hk19 (fun _ h9 => h9) rfl dX6_readChild_70 ?_
      refine lv_iconst (v := (3 : Int32)) hx hb dX6_readChild_73 (by decide) ?_
      refine lv_aload_n hx hb dX6_readChild_74 rfl (lv_at hl 1 rfl) ?_
      refine va_get (D := (dC, dI)) (ci := 6) (v := .int v_o_readChildren) (C := RX6) (T := TX6) (N := 32) hx hb hts in_X6_readChild_X6 hown hK hP 0 rfl rfl 8 (by decide) hk79 (fun _ h9 => h9) rfl dX6_readChild_75 ?_
      refine lv_imul hx hb dX6_readChild_78 ?_
      refine lv_iconst (v := (1 : Int32)) hx hb dX6_readChild_79 (by decide) ?_
      refine lv_iadd hx hb dX6_readChild_80 ?_
      refine lv_iload_n hx hb dX6_readChild_81 rfl (lv_at hl 3 rfl) ?_
      obtain ⟨hg3, hf⟩ := kg_e hf
      refine ka_ist (k := ((((3 : Int32) * v_o_readChildren) + (1 : Int32))).toNatClampNeg) hx hb hK hP hD hS 2 0 rfl rfl (kin_e hg3) rfl dX6_readChild_82 (fun H locs hP hD hS => ?_)
      have hP : va_P (dC, dI) vwCl [(a_o, .inr (6, [.int v_o_thrown, .ref a_o_text, .int v_o_textSize, .int v_o_place, .int v_o_houses, .ref a_o_worth, .int v_o_readHouses, .ref a_o_readHouse, .int v_o_readChildren, .ref a_o_readChild, .ref a_o_page, .ref a_o_trial, .ref a_o_book, .int v_o_acts, .ref a_o_kept, .ref a_o_isKept, .int v_o_seen, .ref a_o_seenHouse, .ref a_o_seenChild, .ref a_o_seenLived, .long v_o_seed, .int v_o_rollMost, .int v_o_rollSet, .int v_o_sideMany, .int v_o_sideOne, .int v_o_sideNone, .int v_o_wrongSides, .int v_o_wrongMany, .int v_o_restMany, .int v_o_restFirst, .ref a_o_gains, .ref a_o_value])), (a_o_text, .inl (cI, 48, .inl f_o_text)), (a_o_readChild, .inl (cI, 18, .inl (upd (upd f_o_readChild ((((3 : Int32) * v_o_readChildren)).toNatClampNeg) x1) (((((3 : Int32) * v_o_readChildren) + (1 : Int32))).toNatClampNeg) x2)))] H := hP
      have hD : va_D A [(a_o, .inr (6, [.int v_o_thrown, .ref a_o_text, .int v_o_textSize, .int v_o_place, .int v_o_houses, .ref a_o_worth, .int v_o_readHouses, .ref a_o_readHouse, .int v_o_readChildren, .ref a_o_readChild, .ref a_o_page, .ref a_o_trial, .ref a_o_book, .int v_o_acts, .ref a_o_kept, .ref a_o_isKept, .int v_o_seen, .ref a_o_seenHouse, .ref a_o_seenChild, .ref a_o_seenLived, .long v_o_seed, .int v_o_rollMost, .int v_o_rollSet, .int v_o_sideMany, .int v_o_sideOne, .int v_o_sideNone, .int v_o_wrongSides, .int v_o_wrongMany, .int v_o_restMany, .int v_o_restFirst, .ref a_o_gains, .ref a_o_value])), (a_o_text, .inl (cI, 48, .inl f_o_text)), (a_o_readChild, .inl (cI, 18, .inl (upd (upd f_o_readChild ((((3 : Int32) * v_o_readChildren)).toNatClampNeg) x1) (((((3 : Int32) * v_o_readChildren) + (1 : Int32))).toNatClampNeg) x2)))] := hD
      refine lv_aload_n hx hb dX6_readChild_83 rfl (lv_at hl 1 rfl) ?_
      refine va_get (D := (dC, dI)) (ci := 6) (v := .ref a_o_readChild) (C := RX6) (T := TX6) (N := 32) hx hb hts in_X6_readChild_X6 hown hK hP 0 rfl rfl 9 (by decide) hk19 (fun _ h9 => h9) rfl dX6_readChild_84 ?_
      refine lv_iconst (v := (3 : Int32)) hx hb dX6_readChild_87 (by decide) ?_
      refine lv_aload_n hx hb dX6_readChild_88 rfl (lv_at hl 1 rfl) ?_
      refine va_get (D := (dC, dI)) (ci := 6) (v := .int v_o_readChildren) (C := RX6) (T := TX6) (N := 32) hx hb hts in_X6_readChild_X6 hown hK hP 0 rfl rfl 8 (by decide) hk79 (fun _ h9 => h9) rfl dX6_readChild_89 ?_
      refine lv_imul hx hb dX6_readChild_92 ?_
      refine lv_iconst (v := (2 : Int32)) hx hb dX6_readChild_93 (by decide) ?_
      refine lv_iadd hx hb dX6_readChild_94 ?_
      refine lv_iload_n hx hb dX6_readChild_95 rfl (lv_at hl 0 rfl) ?_
      obtain ⟨hg4, hf⟩ := kg_e hf
      refine ka_ist (k := ((((3 : Int32) * v_o_readChildren) + (2 : Int32))).toNatClampNeg) hx hb hK hP hD hS 2 0 rfl rfl (kin_e hg4) rfl dX6_readChild_96 (fun H locs hP hD hS => ?_)
      have hP : va_P (dC, dI) vwCl [(a_o, .inr (6, [.int v_o_thrown, .ref a_o_text, .int v_o_textSize, .int v_o_place, .int v_o_houses, .ref a_o_worth, .int v_o_readHouses, .ref a_o_readHouse, .int v_o_readChildren, .ref a_o_readChild, .ref a_o_page, .ref a_o_trial, .ref a_o_book, .int v_o_acts, .ref a_o_kept, .ref a_o_isKept, .int v_o_seen, .ref a_o_seenHouse, .ref a_o_seenChild, .ref a_o_seenLived, .long v_o_seed, .int v_o_rollMost, .int v_o_rollSet, .int v_o_sideMany, .int v_o_sideOne, .int v_o_sideNone, .int v_o_wrongSides, .int v_o_wrongMany, .int v_o_restMany, .int v_o_restFirst, .ref a_o_gains, .ref a_o_value])), (a_o_text, .inl (cI, 48, .inl f_o_text)), (a_o_readChild, .inl (cI, 18, .inl (upd (upd (upd f_o_readChild ((((3 : Int32) * v_o_readChildren)).toNatClampNeg) x1) (((((3 : Int32) * v_o_readChildren) + (1 : Int32))).toNatClampNeg) x2) (((((3 : Int32) * v_o_readChildren) + (2 : Int32))).toNatClampNeg) t0)))] H := hP
      have hD : va_D A [(a_o, .inr (6, [.int v_o_thrown, .ref a_o_text, .int v_o_textSize, .int v_o_place, .int v_o_houses, .ref a_o_worth, .int v_o_readHouses, .ref a_o_readHouse, .int v_o_readChildren, .ref a_o_readChild, .ref a_o_page, .ref a_o_trial, .ref a_o_book, .int v_o_acts, .ref a_o_kept, .ref a_o_isKept, .int v_o_seen, .ref a_o_seenHouse, .ref a_o_seenChild, .ref a_o_seenLived, .long v_o_seed, .int v_o_rollMost, .int v_o_rollSet, .int v_o_sideMany, .int v_o_sideOne, .int v_o_sideNone, .int v_o_wrongSides, .int v_o_wrongMany, .int v_o_restMany, .int v_o_restFirst, .ref a_o_gains, .ref a_o_value])), (a_o_text, .inl (cI, 48, .inl f_o_text)), (a_o_readChild, .inl (cI, 18, .inl (upd (upd (upd f_o_readChild ((((3 : Int32) * v_o_readChildren)).toNatClampNeg) x1) (((((3 : Int32) * v_o_readChildren) + (1 : Int32))).toNatClampNeg) x2) (((((3 : Int32) * v_o_readChildren) + (2 : Int32))).toNatClampNeg) t0)))] := hD
      refine lv_aload_n hx hb dX6_readChild_97 rfl (lv_at hl 1 rfl) ?_
      refine lv_dup hx hb dX6_readChild_98 rfl ?_
      refine va_get (D := (dC, dI)) (ci := 6) (v := .int v_o_readChildren) (C := RX6) (T := TX6) (N := 32) hx hb hts in_X6_readChild_X6 hown hK hP 0 rfl rfl 8 (by decide) hk79 (fun _ h9 => h9) rfl dX6_readChild_99 ?_
      refine lv_iconst (v := (1 : Int32)) hx hb dX6_readChild_102 (by decide) ?_
      refine lv_iadd hx hb dX6_readChild_103 ?_
      refine va_put (D := (dC, dI)) (ci := 6) (v := .int (v_o_readChildren + (1 : Int32))) (ty := .int) (C := RX6) (T := TX6) (N := 32) hx hb hts in_X6_readChild_X6 tyX6 tyX6_ok nmX6 hown hK hP hD hS 0 rfl rfl 8 (by decide) hk79 (fun _ h9 => h9) rfl (by decide +kernel) rfl rfl (Nat.le_of_ble_eq_true rfl) dX6_readChild_104 (fun H locs hP hD hS => ?_)
      have hP : va_P (dC, dI) vwCl [(a_o, .inr (6, [.int v_o_thrown, .ref a_o_text, .int v_o_textSize, .int v_o_place, .int v_o_houses, .ref a_o_worth, .int v_o_readHouses, .ref a_o_readHouse, .int (v_o_readChildren + (1 : Int32)), .ref a_o_readChild, .ref a_o_page, .ref a_o_trial, .ref a_o_book, .int v_o_acts, .ref a_o_kept, .ref a_o_isKept, .int v_o_seen, .ref a_o_seenHouse, .ref a_o_seenChild, .ref a_o_seenLived, .long v_o_seed, .int v_o_rollMost, .int v_o_rollSet, .int v_o_sideMany, .int v_o_sideOne, .int v_o_sideNone, .int v_o_wrongSides, .int v_o_wrongMany, .int v_o_restMany, .int v_o_restFirst, .ref a_o_gains, .ref a_o_value])), (a_o_text, .inl (cI, 48, .inl f_o_text)), (a_o_readChild, .inl (cI, 18, .inl (upd (upd (upd f_o_readChild ((((3 : Int32) * v_o_readChildren)).toNatClampNeg) x1) (((((3 : Int32) * v_o_readChildren) + (1 : Int32))).toNatClampNeg) x2) (((((3 : Int32) * v_o_readChildren) + (2 : Int32))).toNatClampNeg) t0)))] H := hP
      have hD : va_D A [(a_o, .inr (6, [.int v_o_thrown, .ref a_o_text, .int v_o_textSize, .int v_o_place, .int v_o_houses, .ref a_o_worth, .int v_o_readHouses, .ref a_o_readHouse, .int (v_o_readChildren + (1 : Int32)), .ref a_o_readChild, .ref a_o_page, .ref a_o_trial, .ref a_o_book, .int v_o_acts, .ref a_o_kept, .ref a_o_isKept, .int v_o_seen, .ref a_o_seenHouse, .ref a_o_seenChild, .ref a_o_seenLived, .long v_o_seed, .int v_o_rollMost, .int v_o_rollSet, .int v_o_sideMany, .int v_o_sideOne, .int v_o_sideNone, .int v_o_wrongSides, .int v_o_wrongMany, .int v_o_restMany, .int v_o_restFirst, .ref a_o_gains, .ref a_o_value])), (a_o_text, .inl (cI, 48, .inl f_o_text)), (a_o_readChild, .inl (cI, 18, .inl (upd (upd (upd f_o_readChild ((((3 : Int32) * v_o_readChildren)).toNatClampNeg) x1) (((((3 : Int32) * v_o_readChildren) + (1 : Int32))).toNatClampNeg) x2) (((((3 : Int32) * v_o_readChildren) + (2 : Int32))).toNatClampNeg) t0)))] := hD
      refine lv_iconst (v := (1 : Int32)) hx hb dX6_readChild_107 (by decide) ?_
      cases hf
      exact hend _ _ _ _ dX6_readChild_108 (show narrow FieldType.boolean (Value.int (1 : Int32)) = Value.int (1 : Int32) from rfl) hP hS
    · replace hf := kt c1 hf
      refine lv_iconst (v := (0 : Int32)) hx hb dX6_readChild_55 (by decide) ?_
      cases hf
      exact hend _ _ _ _ dX6_readChild_56 (show narrow FieldType.boolean (Value.int (0 : Int32)) = Value.int (0 : Int32) from rfl) hP hS
  have J_30 : ∀ (v_o_place : Int32) (v_o_readChildren : Int32) (f_o_readChild : Nat → Int32) (x1 : Int32) (t0 : Int32) (H : Heap) (locs : List Loc) (ls : Array Slot), va_P (dC, dI) vwCl [(a_o, .inr (6, [.int v_o_thrown, .ref a_o_text, .int v_o_textSize, .int v_o_place, .int v_o_houses, .ref a_o_worth, .int v_o_readHouses, .ref a_o_readHouse, .int v_o_readChildren, .ref a_o_readChild, .ref a_o_page, .ref a_o_trial, .ref a_o_book, .int v_o_acts, .ref a_o_kept, .ref a_o_isKept, .int v_o_seen, .ref a_o_seenHouse, .ref a_o_seenChild, .ref a_o_seenLived, .long v_o_seed, .int v_o_rollMost, .int v_o_rollSet, .int v_o_sideMany, .int v_o_sideOne, .int v_o_sideNone, .int v_o_wrongSides, .int v_o_wrongMany, .int v_o_restMany, .int v_o_restFirst, .ref a_o_gains, .ref a_o_value])), (a_o_text, .inl (cI, 48, .inl f_o_text)), (a_o_readChild, .inl (cI, 18, .inl f_o_readChild))] H → va_D A [(a_o, .inr (6, [.int v_o_thrown, .ref a_o_text, .int v_o_textSize, .int v_o_place, .int v_o_houses, .ref a_o_worth, .int v_o_readHouses, .ref a_o_readHouse, .int v_o_readChildren, .ref a_o_readChild, .ref a_o_page, .ref a_o_trial, .ref a_o_book, .int v_o_acts, .ref a_o_kept, .ref a_o_isKept, .int v_o_seen, .ref a_o_seenHouse, .ref a_o_seenChild, .ref a_o_seenLived, .long v_o_seed, .int v_o_rollMost, .int v_o_rollSet, .int v_o_sideMany, .int v_o_sideOne, .int v_o_sideNone, .int v_o_wrongSides, .int v_o_wrongMany, .int v_o_restMany, .int v_o_restFirst, .ref a_o_gains, .ref a_o_value])), (a_o_text, .inl (cI, 48, .inl f_o_text)), (a_o_readChild, .inl (cI, 18, .inl f_o_readChild))] → va_S A H0 H locs → lv_has ls 4 [(0, .ref a_o), (1, .int x1)] → f_X6_readChild_30 v_o_textSize v_o_readHouses f_o_text v_o_place v_o_readChildren f_o_readChild x1 t0 = some u → W p l e rm_X6_readChild s m args below meth c H locs 0 0 Q (F0 m 30 ls [.int t0]) := by
    intro v_o_place v_o_readChildren f_o_readChild x1 t0 H locs ls hP hD hS hl hf
    unfold f_X6_readChild_30 at hf
    refine lv_istore_n (lv' := [(2, .int t0), (0, .ref a_o), (1, .int x1)]) hx hb dX6_readChild_30 rfl hl (by decide) rfl (fun ls hl => ?_)
    refine lv_iload_n hx hb dX6_readChild_31 rfl (lv_at hl 0 rfl) ?_
    refine lv_bipush (v := (-9 : Int32)) hx hb dX6_readChild_32 (by decide) ?_
    refine lv_icmp_ne (tgt := 42) hx hb dX6_readChild_34 (by decide) (fun c5 => ?_) (fun c5 => ?_)
    · replace hf := kf c5 hf
      refine lv_aload_n hx hb dX6_readChild_42 rfl (lv_at hl 1 rfl) ?_
      refine lv_iconst (v := (0 : Int32)) hx hb dX6_readChild_43 (by decide) ?_
      refine lv_iconst (v := (3 : Int32)) hx hb dX6_readChild_44 (by decide) ?_
      obtain ⟨u6, hu6, hf⟩ := kb1_e hf
      refine kc_i (wn := [(a_o, .inr (6, [.int v_o_thrown, .ref a_o_text, .int v_o_textSize, .int u6.2, .int v_o_houses, .ref a_o_worth, .int v_o_readHouses, .ref a_o_readHouse, .int v_o_readChildren, .ref a_o_readChild, .ref a_o_page, .ref a_o_trial, .ref a_o_book, .int v_o_acts, .ref a_o_kept, .ref a_o_isKept, .int v_o_seen, .ref a_o_seenHouse, .ref a_o_seenChild, .ref a_o_seenLived, .long v_o_seed, .int v_o_rollMost, .int v_o_rollSet, .int v_o_sideMany, .int v_o_sideOne, .int v_o_sideNone, .int v_o_wrongSides, .int v_o_wrongMany, .int v_o_restMany, .int v_o_restFirst, .ref a_o_gains, .ref a_o_value])), (a_o_text, .inl (cI, 48, .inl f_o_text)), (a_o_readChild, .inl (cI, 18, .inl f_o_readChild))]) (wr := [(a_o_readChild, .inl (cI, 18, .inl f_o_readChild))]) (kr_V (As := [.int (0 : Int32), .int (3 : Int32)]) (rest := []) ⟨hx, hb, hml, hown, hts⟩ hK hN hP hD hl.1 (c_X6_figure l dC dI cI cZ a_o a_o_text a_o_worth a_o_readHouse a_o_readChild a_o_page a_o_trial a_o_book a_o_kept a_o_isKept a_o_seenHouse a_o_seenChild a_o_seenLived a_o_gains a_o_value v_o_thrown v_o_textSize v_o_place v_o_houses v_o_readHouses v_o_readChildren v_o_acts v_o_seen v_o_seed v_o_rollMost v_o_rollSet v_o_sideMany v_o_sideOne v_o_sideNone v_o_wrongSides v_o_wrongMany v_o_restMany v_o_restFirst f_o_text (0 : Int32) (3 : Int32) u6 hu6 H.size) sg_X6_figure ⟨rfl, rfl⟩ ⟨Nat.le_of_ble_eq_true rfl, Nat.le_of_ble_eq_true rfl⟩ gX6_readChild_X6_figure 0 rfl rfl rfl [0, 1] (by decide +kernel) rfl rfl rfl (Nat.le_of_ble_eq_true rfl) dX6_readChild_45 ⟨Nat.zero_le _, Nat.zero_le _⟩) hA hP hD hS [0, 1] [2] 3 rfl rfl rfl rfl rfl (by decide +kernel) (by decide +kernel) rfl (fun H locs hP hD hS => ?_)
      exact J_48 u6.2 v_o_readChildren f_o_readChild x1 t0 u6.1 H locs ls hP hD hS (lv_sub hl [1, 2, 0] rfl) hf
    · replace hf := kt c5 hf
      refine lv_bipush (v := (-9 : Int32)) hx hb dX6_readChild_37 (by decide) ?_
      refine lv_goto (tgt := 48) hx hb dX6_readChild_39 (by decide) ?_
      exact J_48 v_o_place v_o_readChildren f_o_readChild x1 t0 (-9 : Int32) H locs ls hP hD hS (lv_sub hl [1, 2, 0] rfl) hf
  unfold f_X6_readChild at hf
  refine lv_aload_n hx hb dX6_readChild_0 rfl (lv_at hl 0 rfl) ?_
  refine lv_iconst (v := (0 : Int32)) hx hb dX6_readChild_1 (by decide) ?_
  refine lv_bipush (v := (9 : Int32)) hx hb dX6_readChild_2 (by decide) ?_
  obtain ⟨u7, hu7, hf⟩ := kb1_e hf
  refine kc_i (wn := [(a_o, .inr (6, [.int v_o_thrown, .ref a_o_text, .int v_o_textSize, .int u7.2, .int v_o_houses, .ref a_o_worth, .int v_o_readHouses, .ref a_o_readHouse, .int v_o_readChildren, .ref a_o_readChild, .ref a_o_page, .ref a_o_trial, .ref a_o_book, .int v_o_acts, .ref a_o_kept, .ref a_o_isKept, .int v_o_seen, .ref a_o_seenHouse, .ref a_o_seenChild, .ref a_o_seenLived, .long v_o_seed, .int v_o_rollMost, .int v_o_rollSet, .int v_o_sideMany, .int v_o_sideOne, .int v_o_sideNone, .int v_o_wrongSides, .int v_o_wrongMany, .int v_o_restMany, .int v_o_restFirst, .ref a_o_gains, .ref a_o_value])), (a_o_text, .inl (cI, 48, .inl f_o_text)), (a_o_readChild, .inl (cI, 18, .inl f_o_readChild))]) (wr := [(a_o_readChild, .inl (cI, 18, .inl f_o_readChild))]) (kr_V (As := [.int (0 : Int32), .int (9 : Int32)]) (rest := []) ⟨hx, hb, hml, hown, hts⟩ hK hN hP hD hl.1 (c_X6_figure l dC dI cI cZ a_o a_o_text a_o_worth a_o_readHouse a_o_readChild a_o_page a_o_trial a_o_book a_o_kept a_o_isKept a_o_seenHouse a_o_seenChild a_o_seenLived a_o_gains a_o_value v_o_thrown v_o_textSize v_o_place v_o_houses v_o_readHouses v_o_readChildren v_o_acts v_o_seen v_o_seed v_o_rollMost v_o_rollSet v_o_sideMany v_o_sideOne v_o_sideNone v_o_wrongSides v_o_wrongMany v_o_restMany v_o_restFirst f_o_text (0 : Int32) (9 : Int32) u7 hu7 H.size) sg_X6_figure ⟨rfl, rfl⟩ ⟨Nat.le_of_ble_eq_true rfl, Nat.le_of_ble_eq_true rfl⟩ gX6_readChild_X6_figure 0 rfl rfl rfl [0, 1] (by decide +kernel) rfl rfl rfl (Nat.le_of_ble_eq_true rfl) dX6_readChild_4 ⟨Nat.zero_le _, Nat.zero_le _⟩) hA hP hD hS [0, 1] [2] 3 rfl rfl rfl rfl rfl (by decide +kernel) (by decide +kernel) rfl (fun H locs hP hD hS => ?_)
  refine lv_istore_n (lv' := [(1, .int u7.1), (0, .ref a_o)]) hx hb dX6_readChild_7 rfl hl (by decide) rfl (fun ls hl => ?_)
  refine lv_iload_n hx hb dX6_readChild_8 rfl (lv_at hl 0 rfl) ?_
  refine lv_bipush (v := (-9 : Int32)) hx hb dX6_readChild_9 (by decide) ?_
  refine lv_icmp_ne (tgt := 19) hx hb dX6_readChild_11 (by decide) (fun c8 => ?_) (fun c8 => ?_)
  · replace hf := kf c8 hf
    refine lv_aload_n hx hb dX6_readChild_19 rfl (lv_at hl 1 rfl) ?_
    refine lv_iconst (v := (0 : Int32)) hx hb dX6_readChild_20 (by decide) ?_
    refine lv_aload_n hx hb dX6_readChild_21 rfl (lv_at hl 1 rfl) ?_
    refine va_get (D := (dC, dI)) (ci := 6) (v := .int v_o_readHouses) (C := RX6) (T := TX6) (N := 32) hx hb hts in_X6_readChild_X6 hown hK hP 0 rfl rfl 6 (by decide) hk76 (fun _ h9 => h9) rfl dX6_readChild_22 ?_
    refine lv_iconst (v := (1 : Int32)) hx hb dX6_readChild_25 (by decide) ?_
    refine lv_isub hx hb dX6_readChild_26 ?_
    obtain ⟨u9, hu9, hf⟩ := kb1_e hf
    refine kc_i (wn := [(a_o, .inr (6, [.int v_o_thrown, .ref a_o_text, .int v_o_textSize, .int u9.2, .int v_o_houses, .ref a_o_worth, .int v_o_readHouses, .ref a_o_readHouse, .int v_o_readChildren, .ref a_o_readChild, .ref a_o_page, .ref a_o_trial, .ref a_o_book, .int v_o_acts, .ref a_o_kept, .ref a_o_isKept, .int v_o_seen, .ref a_o_seenHouse, .ref a_o_seenChild, .ref a_o_seenLived, .long v_o_seed, .int v_o_rollMost, .int v_o_rollSet, .int v_o_sideMany, .int v_o_sideOne, .int v_o_sideNone, .int v_o_wrongSides, .int v_o_wrongMany, .int v_o_restMany, .int v_o_restFirst, .ref a_o_gains, .ref a_o_value])), (a_o_text, .inl (cI, 48, .inl f_o_text)), (a_o_readChild, .inl (cI, 18, .inl f_o_readChild))]) (wr := [(a_o_readChild, .inl (cI, 18, .inl f_o_readChild))]) (kr_V (As := [.int (0 : Int32), .int (v_o_readHouses - (1 : Int32))]) (rest := []) ⟨hx, hb, hml, hown, hts⟩ hK hN hP hD hl.1 (c_X6_figure l dC dI cI cZ a_o a_o_text a_o_worth a_o_readHouse a_o_readChild a_o_page a_o_trial a_o_book a_o_kept a_o_isKept a_o_seenHouse a_o_seenChild a_o_seenLived a_o_gains a_o_value v_o_thrown v_o_textSize u7.2 v_o_houses v_o_readHouses v_o_readChildren v_o_acts v_o_seen v_o_seed v_o_rollMost v_o_rollSet v_o_sideMany v_o_sideOne v_o_sideNone v_o_wrongSides v_o_wrongMany v_o_restMany v_o_restFirst f_o_text (0 : Int32) (v_o_readHouses - (1 : Int32)) u9 hu9 H.size) sg_X6_figure ⟨rfl, rfl⟩ ⟨Nat.le_of_ble_eq_true rfl, Nat.le_of_ble_eq_true rfl⟩ gX6_readChild_X6_figure 0 rfl rfl rfl [0, 1] (by decide +kernel) rfl rfl rfl (Nat.le_of_ble_eq_true rfl) dX6_readChild_27 ⟨Nat.zero_le _, Nat.zero_le _⟩) hA hP hD hS [0, 1] [2] 3 rfl rfl rfl rfl rfl (by decide +kernel) (by decide +kernel) rfl (fun H locs hP hD hS => ?_)
    exact J_30 u9.2 v_o_readChildren f_o_readChild u7.1 u9.1 H locs ls hP hD hS (lv_sub hl [1, 0] rfl) hf
  · replace hf := kt c8 hf
    refine lv_bipush (v := (-9 : Int32)) hx hb dX6_readChild_14 (by decide) ?_
    refine lv_goto (tgt := 30) hx hb dX6_readChild_16 (by decide) ?_
    exact J_30 u7.2 v_o_readChildren f_o_readChild u7.1 (-9 : Int32) H locs ls hP hD hS (lv_sub hl [1, 0] rfl) hf
