theorem sg_X1_dropFirst : kSig yX1_dropFirst wsX1_dropFirst cX1_dropFirst 2 none RX1 0 := ⟨⟨_, rfl⟩, rfl, by decide, by decide +kernel, by decide +kernel, by decide +kernel⟩
abbrev rm_X1_dropFirst : Room := { frames := 0, cells := 0, slots := 0, locals := 0 }
set_option maxRecDepth 20000 in
theorem in_X1_dropFirst_X1 : ∀ w ∈ u_ws RX1 TX1 1, w ∈ wsX1_dropFirst := by decide +kernel
set_option maxHeartbeats 4000000 in
set_option maxRecDepth 100000 in
theorem c_X1_dropFirst (l : Launch) (dC : Nat → ClassId) (dI : Nat → Nat → Nat) (cI cZ : ClassId) (a_o a_o_cells : Nat) (n_o_cells : Nat) (f_o_cells : Nat → Int32)  (u : (Nat → Int32)) (hf : f_X1_dropFirst n_o_cells f_o_cells = some u) : kMv l yX1_dropFirst wsX1_dropFirst rm_X1_dropFirst (dC, dI) (kTy cI cZ) [.ref a_o] [(a_o, .inr (1, [.ref a_o_cells])), (a_o_cells, .inl (cI, n_o_cells, .inl f_o_cells))] [(a_o, .inr (1, [.ref a_o_cells])), (a_o_cells, .inl (cI, n_o_cells, .inl u))]  := by
  refine kMv_of sg_X1_dropFirst ⟨rfl, rfl⟩ (Nat.le_of_ble_eq_true rfl) ?_
  intro p e s m args below meth c A H0 Q hx hb hml hown hts hK hN hA hend H locs ls hP hD hS hl
  have hl : lv_has ls 2 [(0, .ref a_o)] := hl
  have hk13 := hts (.fieldLink RX1 13 "YoungestHouse$Row" "cells" "[I") (by decide +kernel)
  have J_2 : ∀ (n_2 : Nat), ∀ (f_o_cells : Nat → Int32) (x1 : Int32) (H : Heap) (locs : List Loc) (ls : Array Slot), va_P (dC, dI) vwCl [(a_o, .inr (1, [.ref a_o_cells])), (a_o_cells, .inl (cI, n_o_cells, .inl f_o_cells))] H → va_D A [(a_o, .inr (1, [.ref a_o_cells])), (a_o_cells, .inl (cI, n_o_cells, .inl f_o_cells))] → va_S A H0 H locs → lv_has ls 2 [(0, .ref a_o), (1, .int x1)] → f_X1_dropFirst_2 n_o_cells n_2 f_o_cells x1 = some u → W p l e rm_X1_dropFirst s m args below meth c H locs 0 0 Q (F0 m 2 ls []) := by
    intro n_2
    induction n_2 with
    | zero => intro f_o_cells x1 H locs ls hP hD hS hl hf; exact nomatch hf
    | succ n_2 ih_2 =>
      intro f_o_cells x1 H locs ls hP hD hS hl hf
      have hf : f_X1_dropFirst_2_b n_o_cells (f_X1_dropFirst_2 n_o_cells n_2) f_o_cells x1 = some u := hf
      unfold f_X1_dropFirst_2_b at hf
      refine lv_iload_n hx hb dX1_dropFirst_2 rfl (lv_at hl 1 rfl) ?_
      refine lv_aload_n hx hb dX1_dropFirst_3 rfl (lv_at hl 0 rfl) ?_
      refine va_get (D := (dC, dI)) (ci := 1) (v := .ref a_o_cells) (C := RX1) (T := TX1) (N := 1) hx hb hts in_X1_dropFirst_X1 hown hK hP 0 rfl rfl 0 (by decide) hk13 (fun _ h9 => h9) rfl dX1_dropFirst_4 ?_
      refine va_alen (v := (Int32.ofNat n_o_cells)) hx hb hK hP 1 0 rfl rfl rfl dX1_dropFirst_7 ?_
      refine lv_icmp_ge (tgt := 31) hx hb dX1_dropFirst_8 (by decide) (fun c1 => ?_) (fun c1 => ?_)
      · replace hf := kt c1 hf
        cases hf
        exact hend _ _ _ _ dX1_dropFirst_31 hP hS
      · replace hf := kf c1 hf
        refine lv_aload_n hx hb dX1_dropFirst_11 rfl (lv_at hl 0 rfl) ?_
        refine va_get (D := (dC, dI)) (ci := 1) (v := .ref a_o_cells) (C := RX1) (T := TX1) (N := 1) hx hb hts in_X1_dropFirst_X1 hown hK hP 0 rfl rfl 0 (by decide) hk13 (fun _ h9 => h9) rfl dX1_dropFirst_12 ?_
        refine lv_iload_n hx hb dX1_dropFirst_15 rfl (lv_at hl 1 rfl) ?_
        refine lv_iconst (v := (1 : Int32)) hx hb dX1_dropFirst_16 (by decide) ?_
        refine lv_isub hx hb dX1_dropFirst_17 ?_
        refine lv_aload_n hx hb dX1_dropFirst_18 rfl (lv_at hl 0 rfl) ?_
        refine va_get (D := (dC, dI)) (ci := 1) (v := .ref a_o_cells) (C := RX1) (T := TX1) (N := 1) hx hb hts in_X1_dropFirst_X1 hown hK hP 0 rfl rfl 0 (by decide) hk13 (fun _ h9 => h9) rfl dX1_dropFirst_19 ?_
        refine lv_iload_n hx hb dX1_dropFirst_22 rfl (lv_at hl 1 rfl) ?_
        obtain ⟨hg2, hf⟩ := kg_e hf
        refine ka_ild (k := (x1).toNatClampNeg) hx hb hK hP 1 0 rfl rfl (kin_e hg2) rfl dX1_dropFirst_23 ?_
        obtain ⟨hg3, hf⟩ := kg_e hf
        refine ka_ist (k := ((x1 - (1 : Int32))).toNatClampNeg) hx hb hK hP hD hS 1 0 rfl rfl (kin_e hg3) rfl dX1_dropFirst_24 (fun H locs hP hD hS => ?_)
        have hP : va_P (dC, dI) vwCl [(a_o, .inr (1, [.ref a_o_cells])), (a_o_cells, .inl (cI, n_o_cells, .inl (upd f_o_cells (((x1 - (1 : Int32))).toNatClampNeg) (f_o_cells (x1).toNatClampNeg))))] H := hP
        have hD : va_D A [(a_o, .inr (1, [.ref a_o_cells])), (a_o_cells, .inl (cI, n_o_cells, .inl (upd f_o_cells (((x1 - (1 : Int32))).toNatClampNeg) (f_o_cells (x1).toNatClampNeg))))] := hD
        refine lv_iinc (v := (x1 + (1 : Int32))) (lv' := [(1, .int (x1 + (1 : Int32))), (0, .ref a_o)]) hx hb dX1_dropFirst_25 hl (k := 1) rfl rfl (by decide) rfl (fun ls hl => ?_)
        refine lv_goto (tgt := 2) hx hb dX1_dropFirst_28 (by decide) ?_
        exact ih_2 (upd f_o_cells (((x1 - (1 : Int32))).toNatClampNeg) (f_o_cells (x1).toNatClampNeg)) (x1 + (1 : Int32)) H locs ls hP hD hS (lv_sub hl [1, 0] rfl) hf
  unfold f_X1_dropFirst at hf
  refine lv_iconst (v := (1 : Int32)) hx hb dX1_dropFirst_0 (by decide) ?_
  refine lv_istore_n (lv' := [(1, .int (1 : Int32)), (0, .ref a_o)]) hx hb dX1_dropFirst_1 rfl hl (by decide) rfl (fun ls hl => ?_)
  exact J_2 1000 f_o_cells (1 : Int32) H locs ls hP hD hS (lv_sub hl [1, 0] rfl) hf
theorem sg_X1_set : kSig yX1_set wsX1_set cX1_set 3 none RX1 2 := ⟨⟨_, rfl⟩, rfl, by decide, by decide +kernel, by decide +kernel, by decide +kernel⟩
abbrev rm_X1_set : Room := { frames := 0, cells := 0, slots := 0, locals := 0 }
set_option maxRecDepth 20000 in
theorem in_X1_set_X1 : ∀ w ∈ u_ws RX1 TX1 1, w ∈ wsX1_set := by decide +kernel
set_option maxHeartbeats 4000000 in
set_option maxRecDepth 100000 in
theorem c_X1_set (l : Launch) (dC : Nat → ClassId) (dI : Nat → Nat → Nat) (cI cZ : ClassId) (a_o a_o_cells : Nat) (n_o_cells : Nat) (f_o_cells : Nat → Int32) (x1 : Int32) (x2 : Int32) (u : (Nat → Int32)) (hf : f_X1_set n_o_cells f_o_cells x1 x2 = some u) : kMv l yX1_set wsX1_set rm_X1_set (dC, dI) (kTy cI cZ) [.ref a_o, .int x1, .int x2] [(a_o, .inr (1, [.ref a_o_cells])), (a_o_cells, .inl (cI, n_o_cells, .inl f_o_cells))] [(a_o, .inr (1, [.ref a_o_cells])), (a_o_cells, .inl (cI, n_o_cells, .inl u))]  := by
  refine kMv_of sg_X1_set ⟨rfl, rfl⟩ (Nat.le_of_ble_eq_true rfl) ?_
  intro p e s m args below meth c A H0 Q hx hb hml hown hts hK hN hA hend H locs ls hP hD hS hl
  have hl : lv_has ls 3 [(0, .ref a_o), (1, .int x1), (2, .int x2)] := hl
  have hk13 := hts (.fieldLink RX1 13 "YoungestHouse$Row" "cells" "[I") (by decide +kernel)
  unfold f_X1_set at hf
  refine lv_iload_n hx hb dX1_set_0 rfl (lv_at hl 1 rfl) ?_
  refine lv_if_lt (tgt := 20) hx hb dX1_set_1 (by decide) (fun c1 => ?_) (fun c1 => ?_)
  · replace hf := kt c1 hf
    cases hf
    exact hend _ _ _ _ dX1_set_20 hP hS
  · replace hf := kf c1 hf
    refine lv_iload_n hx hb dX1_set_4 rfl (lv_at hl 1 rfl) ?_
    refine lv_aload_n hx hb dX1_set_5 rfl (lv_at hl 0 rfl) ?_
    refine va_get (D := (dC, dI)) (ci := 1) (v := .ref a_o_cells) (C := RX1) (T := TX1) (N := 1) hx hb hts in_X1_set_X1 hown hK hP 0 rfl rfl 0 (by decide) hk13 (fun _ h9 => h9) rfl dX1_set_6 ?_
    refine va_alen (v := (Int32.ofNat n_o_cells)) hx hb hK hP 1 0 rfl rfl rfl dX1_set_9 ?_
    refine lv_icmp_ge (tgt := 20) hx hb dX1_set_10 (by decide) (fun c2 => ?_) (fun c2 => ?_)
    · replace hf := kt c2 hf
      cases hf
      exact hend _ _ _ _ dX1_set_20 hP hS
    · replace hf := kf c2 hf
      refine lv_aload_n hx hb dX1_set_13 rfl (lv_at hl 0 rfl) ?_
      refine va_get (D := (dC, dI)) (ci := 1) (v := .ref a_o_cells) (C := RX1) (T := TX1) (N := 1) hx hb hts in_X1_set_X1 hown hK hP 0 rfl rfl 0 (by decide) hk13 (fun _ h9 => h9) rfl dX1_set_14 ?_
      refine lv_iload_n hx hb dX1_set_17 rfl (lv_at hl 1 rfl) ?_
      refine lv_iload_n hx hb dX1_set_18 rfl (lv_at hl 2 rfl) ?_
      obtain ⟨hg3, hf⟩ := kg_e hf
      refine ka_ist (k := (x1).toNatClampNeg) hx hb hK hP hD hS 1 0 rfl rfl (kin_e hg3) rfl dX1_set_19 (fun H locs hP hD hS => ?_)
      have hP : va_P (dC, dI) vwCl [(a_o, .inr (1, [.ref a_o_cells])), (a_o_cells, .inl (cI, n_o_cells, .inl (upd f_o_cells ((x1).toNatClampNeg) x2)))] H := hP
      have hD : va_D A [(a_o, .inr (1, [.ref a_o_cells])), (a_o_cells, .inl (cI, n_o_cells, .inl (upd f_o_cells ((x1).toNatClampNeg) x2)))] := hD
      cases hf
      exact hend _ _ _ _ dX1_set_20 hP hS
theorem sg_X1_get : kSig yX1_get wsX1_get cX1_get 2 (some .int) RX1 1 := ⟨⟨_, rfl⟩, rfl, by decide, by decide +kernel, by decide +kernel, by decide +kernel⟩
abbrev rm_X1_get : Room := { frames := 0, cells := 0, slots := 0, locals := 0 }
set_option maxRecDepth 20000 in
theorem in_X1_get_X1 : ∀ w ∈ u_ws RX1 TX1 1, w ∈ wsX1_get := by decide +kernel
set_option maxHeartbeats 4000000 in
set_option maxRecDepth 100000 in
theorem c_X1_get (l : Launch) (dC : Nat → ClassId) (dI : Nat → Nat → Nat) (cI cZ : ClassId) (a_o a_o_cells : Nat) (n_o_cells : Nat) (f_o_cells : Nat → Int32) (x1 : Int32) (u : Int32) (hf : f_X1_get n_o_cells f_o_cells x1 = some u) : kMi l yX1_get wsX1_get rm_X1_get (dC, dI) (kTy cI cZ) [.ref a_o, .int x1] [(a_o, .inr (1, [.ref a_o_cells])), (a_o_cells, .inl (cI, n_o_cells, .inl f_o_cells))] [(a_o, .inr (1, [.ref a_o_cells])), (a_o_cells, .inl (cI, n_o_cells, .inl f_o_cells))] u := by
  refine kMi_of sg_X1_get ⟨rfl, rfl⟩ (Nat.le_of_ble_eq_true rfl) ?_
  intro p e s m args below meth c A H0 Q hx hb hml hown hts hK hN hA hend H locs ls hP hD hS hl
  have hl : lv_has ls 2 [(0, .ref a_o), (1, .int x1)] := hl
  have hk13 := hts (.fieldLink RX1 13 "YoungestHouse$Row" "cells" "[I") (by decide +kernel)
  unfold f_X1_get at hf
  refine lv_iload_n hx hb dX1_get_0 rfl (lv_at hl 1 rfl) ?_
  refine lv_if_lt (tgt := 22) hx hb dX1_get_1 (by decide) (fun c1 => ?_) (fun c1 => ?_)
  · replace hf := kt c1 hf
    refine lv_iconst (v := (0 : Int32)) hx hb dX1_get_22 (by decide) ?_
    cases hf
    exact hend _ _ _ _ dX1_get_23 rfl hP hS
  · replace hf := kf c1 hf
    refine lv_iload_n hx hb dX1_get_4 rfl (lv_at hl 1 rfl) ?_
    refine lv_aload_n hx hb dX1_get_5 rfl (lv_at hl 0 rfl) ?_
    refine va_get (D := (dC, dI)) (ci := 1) (v := .ref a_o_cells) (C := RX1) (T := TX1) (N := 1) hx hb hts in_X1_get_X1 hown hK hP 0 rfl rfl 0 (by decide) hk13 (fun _ h9 => h9) rfl dX1_get_6 ?_
    refine va_alen (v := (Int32.ofNat n_o_cells)) hx hb hK hP 1 0 rfl rfl rfl dX1_get_9 ?_
    refine lv_icmp_ge (tgt := 22) hx hb dX1_get_10 (by decide) (fun c2 => ?_) (fun c2 => ?_)
    · replace hf := kt c2 hf
      refine lv_iconst (v := (0 : Int32)) hx hb dX1_get_22 (by decide) ?_
      cases hf
      exact hend _ _ _ _ dX1_get_23 rfl hP hS
    · replace hf := kf c2 hf
      refine lv_aload_n hx hb dX1_get_13 rfl (lv_at hl 0 rfl) ?_
      refine va_get (D := (dC, dI)) (ci := 1) (v := .ref a_o_cells) (C := RX1) (T := TX1) (N := 1) hx hb hts in_X1_get_X1 hown hK hP 0 rfl rfl 0 (by decide) hk13 (fun _ h9 => h9) rfl dX1_get_14 ?_
      refine lv_iload_n hx hb dX1_get_17 rfl (lv_at hl 1 rfl) ?_
      obtain ⟨hg3, hf⟩ := kg_e hf
      refine ka_ild (k := (x1).toNatClampNeg) hx hb hK hP 1 0 rfl rfl (kin_e hg3) rfl dX1_get_18 ?_
      refine lv_goto (tgt := 23) hx hb dX1_get_19 (by decide) ?_
      cases hf
      exact hend _ _ _ _ dX1_get_23 rfl hP hS
theorem sg_X5_bit : kSig yX5_bit wsX5_bit cX5_bit 1 (some .int) RX5 1 := ⟨⟨_, rfl⟩, rfl, by decide, by decide +kernel, by decide +kernel, by decide +kernel⟩
abbrev rm_X5_bit : Room := { frames := 0, cells := 0, slots := 0, locals := 0 }
set_option maxHeartbeats 4000000 in
set_option maxRecDepth 100000 in
theorem c_X5_bit (l : Launch) (dC : Nat → ClassId) (dI : Nat → Nat → Nat) (cI cZ : ClassId) (x0 : Int32) (u : Int32) (hf : f_X5_bit x0 = some u) : kMi l yX5_bit wsX5_bit rm_X5_bit (dC, dI) (kTy cI cZ) [.int x0] [] [] u := by
  refine kMi_of sg_X5_bit ⟨rfl, rfl⟩ (Nat.le_of_ble_eq_true rfl) ?_
  intro p e s m args below meth c A H0 Q hx hb hml hown hts hK hN hA hend H locs ls hP hD hS hl
  have hl : lv_has ls 1 [(0, .int x0)] := hl
  unfold f_X5_bit at hf
  refine lv_iconst (v := (1 : Int32)) hx hb dX5_bit_0 (by decide) ?_
  refine lv_iload_n hx hb dX5_bit_1 rfl (lv_at hl 0 rfl) ?_
  refine lv_ishl hx hb dX5_bit_2 ?_
  cases hf
  exact hend _ _ _ _ dX5_bit_3 rfl hP hS
theorem sg_J6_bitCount_0f7a4 : kSig yJ6_bitCount_0f7a4 wsJ6_bitCount_0f7a4 cJ6_bitCount_0f7a4 1 (some .int) RJ6 1 := ⟨⟨_, rfl⟩, rfl, by decide, by decide +kernel, by decide +kernel, by decide +kernel⟩
abbrev rm_J6_bitCount_0f7a4 : Room := { frames := 0, cells := 0, slots := 0, locals := 0 }
set_option maxHeartbeats 4000000 in
set_option maxRecDepth 100000 in
theorem c_J6_bitCount_0f7a4 (l : Launch) (dC : Nat → ClassId) (dI : Nat → Nat → Nat) (cI cZ : ClassId) (x0 : Int32) (u : Int32) (hf : f_J6_bitCount_0f7a4 x0 = some u) : kMi l yJ6_bitCount_0f7a4 wsJ6_bitCount_0f7a4 rm_J6_bitCount_0f7a4 (dC, dI) (kTy cI cZ) [.int x0] [] [] u := by
  refine kMi_of sg_J6_bitCount_0f7a4 ⟨rfl, rfl⟩ (Nat.le_of_ble_eq_true rfl) ?_
  intro p e s m args below meth c A H0 Q hx hb hml hown hts hK hN hA hend H locs ls hP hD hS hl
  have hl : lv_has ls 1 [(0, .int x0)] := hl
  unfold f_J6_bitCount_0f7a4 at hf
  refine lv_iload_n hx hb dJ6_bitCount_0f7a4_0 rfl (lv_at hl 0 rfl) ?_
  refine lv_iload_n hx hb dJ6_bitCount_0f7a4_1 rfl (lv_at hl 0 rfl) ?_
  refine lv_iconst (v := (1 : Int32)) hx hb dJ6_bitCount_0f7a4_2 (by decide) ?_
  refine lv_iushr (v := ((x0).toUInt32 >>> (((1 : Int32)).toUInt32 &&& Int32.toUInt32 31)).toInt32) hx hb dJ6_bitCount_0f7a4_3 rfl ?_
  refine lv_ldcw (own := RJ6) (v := (1431655765 : Int32)) hx hb hown (hts (.constant RJ6 265 (1431655765 : Int32)) (by decide +kernel)) dJ6_bitCount_0f7a4_4 ?_
  refine lv_iand hx hb dJ6_bitCount_0f7a4_7 ?_
  refine lv_isub hx hb dJ6_bitCount_0f7a4_8 ?_
  refine lv_istore_n (lv' := [(0, .int (x0 - (((x0).toUInt32 >>> (((1 : Int32)).toUInt32 &&& Int32.toUInt32 31)).toInt32 &&& (1431655765 : Int32))))]) hx hb dJ6_bitCount_0f7a4_9 rfl hl (by decide) rfl (fun ls hl => ?_)
  refine lv_iload_n hx hb dJ6_bitCount_0f7a4_10 rfl (lv_at hl 0 rfl) ?_
  refine lv_ldcw (own := RJ6) (v := (858993459 : Int32)) hx hb hown (hts (.constant RJ6 266 (858993459 : Int32)) (by decide +kernel)) dJ6_bitCount_0f7a4_11 ?_
  refine lv_iand hx hb dJ6_bitCount_0f7a4_14 ?_
  refine lv_iload_n hx hb dJ6_bitCount_0f7a4_15 rfl (lv_at hl 0 rfl) ?_
  refine lv_iconst (v := (2 : Int32)) hx hb dJ6_bitCount_0f7a4_16 (by decide) ?_
  refine lv_iushr (v := (((x0 - (((x0).toUInt32 >>> (((1 : Int32)).toUInt32 &&& Int32.toUInt32 31)).toInt32 &&& (1431655765 : Int32)))).toUInt32 >>> (((2 : Int32)).toUInt32 &&& Int32.toUInt32 31)).toInt32) hx hb dJ6_bitCount_0f7a4_17 rfl ?_
  refine lv_ldcw (own := RJ6) (v := (858993459 : Int32)) hx hb hown (hts (.constant RJ6 266 (858993459 : Int32)) (by decide +kernel)) dJ6_bitCount_0f7a4_18 ?_
  refine lv_iand hx hb dJ6_bitCount_0f7a4_21 ?_
  refine lv_iadd hx hb dJ6_bitCount_0f7a4_22 ?_
  refine lv_istore_n (lv' := [(0, .int (((x0 - (((x0).toUInt32 >>> (((1 : Int32)).toUInt32 &&& Int32.toUInt32 31)).toInt32 &&& (1431655765 : Int32))) &&& (858993459 : Int32)) + ((((x0 - (((x0).toUInt32 >>> (((1 : Int32)).toUInt32 &&& Int32.toUInt32 31)).toInt32 &&& (1431655765 : Int32)))).toUInt32 >>> (((2 : Int32)).toUInt32 &&& Int32.toUInt32 31)).toInt32 &&& (858993459 : Int32))))]) hx hb dJ6_bitCount_0f7a4_23 rfl hl (by decide) rfl (fun ls hl => ?_)
  refine lv_iload_n hx hb dJ6_bitCount_0f7a4_24 rfl (lv_at hl 0 rfl) ?_
  refine lv_iload_n hx hb dJ6_bitCount_0f7a4_25 rfl (lv_at hl 0 rfl) ?_
  refine lv_iconst (v := (4 : Int32)) hx hb dJ6_bitCount_0f7a4_26 (by decide) ?_
  refine lv_iushr (v := (((((x0 - (((x0).toUInt32 >>> (((1 : Int32)).toUInt32 &&& Int32.toUInt32 31)).toInt32 &&& (1431655765 : Int32))) &&& (858993459 : Int32)) + ((((x0 - (((x0).toUInt32 >>> (((1 : Int32)).toUInt32 &&& Int32.toUInt32 31)).toInt32 &&& (1431655765 : Int32)))).toUInt32 >>> (((2 : Int32)).toUInt32 &&& Int32.toUInt32 31)).toInt32 &&& (858993459 : Int32)))).toUInt32 >>> (((4 : Int32)).toUInt32 &&& Int32.toUInt32 31)).toInt32) hx hb dJ6_bitCount_0f7a4_27 rfl ?_
  refine lv_iadd hx hb dJ6_bitCount_0f7a4_28 ?_
  refine lv_ldcw (own := RJ6) (v := (252645135 : Int32)) hx hb hown (hts (.constant RJ6 267 (252645135 : Int32)) (by decide +kernel)) dJ6_bitCount_0f7a4_29 ?_
  refine lv_iand hx hb dJ6_bitCount_0f7a4_32 ?_
  refine lv_istore_n (lv' := [(0, .int (((((x0 - (((x0).toUInt32 >>> (((1 : Int32)).toUInt32 &&& Int32.toUInt32 31)).toInt32 &&& (1431655765 : Int32))) &&& (858993459 : Int32)) + ((((x0 - (((x0).toUInt32 >>> (((1 : Int32)).toUInt32 &&& Int32.toUInt32 31)).toInt32 &&& (1431655765 : Int32)))).toUInt32 >>> (((2 : Int32)).toUInt32 &&& Int32.toUInt32 31)).toInt32 &&& (858993459 : Int32))) + (((((x0 - (((x0).toUInt32 >>> (((1 : Int32)).toUInt32 &&& Int32.toUInt32 31)).toInt32 &&& (1431655765 : Int32))) &&& (858993459 : Int32)) + ((((x0 - (((x0).toUInt32 >>> (((1 : Int32)).toUInt32 &&& Int32.toUInt32 31)).toInt32 &&& (1431655765 : Int32)))).toUInt32 >>> (((2 : Int32)).toUInt32 &&& Int32.toUInt32 31)).toInt32 &&& (858993459 : Int32)))).toUInt32 >>> (((4 : Int32)).toUInt32 &&& Int32.toUInt32 31)).toInt32) &&& (252645135 : Int32)))]) hx hb dJ6_bitCount_0f7a4_33 rfl hl (by decide) rfl (fun ls hl => ?_)
  refine lv_iload_n hx hb dJ6_bitCount_0f7a4_34 rfl (lv_at hl 0 rfl) ?_
  refine lv_iload_n hx hb dJ6_bitCount_0f7a4_35 rfl (lv_at hl 0 rfl) ?_
  refine lv_bipush (v := (8 : Int32)) hx hb dJ6_bitCount_0f7a4_36 (by decide) ?_
  refine lv_iushr (v := (((((((x0 - (((x0).toUInt32 >>> (((1 : Int32)).toUInt32 &&& Int32.toUInt32 31)).toInt32 &&& (1431655765 : Int32))) &&& (858993459 : Int32)) + ((((x0 - (((x0).toUInt32 >>> (((1 : Int32)).toUInt32 &&& Int32.toUInt32 31)).toInt32 &&& (1431655765 : Int32)))).toUInt32 >>> (((2 : Int32)).toUInt32 &&& Int32.toUInt32 31)).toInt32 &&& (858993459 : Int32))) + (((((x0 - (((x0).toUInt32 >>> (((1 : Int32)).toUInt32 &&& Int32.toUInt32 31)).toInt32 &&& (1431655765 : Int32))) &&& (858993459 : Int32)) + ((((x0 - (((x0).toUInt32 >>> (((1 : Int32)).toUInt32 &&& Int32.toUInt32 31)).toInt32 &&& (1431655765 : Int32)))).toUInt32 >>> (((2 : Int32)).toUInt32 &&& Int32.toUInt32 31)).toInt32 &&& (858993459 : Int32)))).toUInt32 >>> (((4 : Int32)).toUInt32 &&& Int32.toUInt32 31)).toInt32) &&& (252645135 : Int32))).toUInt32 >>> (((8 : Int32)).toUInt32 &&& Int32.toUInt32 31)).toInt32) hx hb dJ6_bitCount_0f7a4_38 rfl ?_
  refine lv_iadd hx hb dJ6_bitCount_0f7a4_39 ?_
  refine lv_istore_n (lv' := [(0, .int ((((((x0 - (((x0).toUInt32 >>> (((1 : Int32)).toUInt32 &&& Int32.toUInt32 31)).toInt32 &&& (1431655765 : Int32))) &&& (858993459 : Int32)) + ((((x0 - (((x0).toUInt32 >>> (((1 : Int32)).toUInt32 &&& Int32.toUInt32 31)).toInt32 &&& (1431655765 : Int32)))).toUInt32 >>> (((2 : Int32)).toUInt32 &&& Int32.toUInt32 31)).toInt32 &&& (858993459 : Int32))) + (((((x0 - (((x0).toUInt32 >>> (((1 : Int32)).toUInt32 &&& Int32.toUInt32 31)).toInt32 &&& (1431655765 : Int32))) &&& (858993459 : Int32)) + ((((x0 - (((x0).toUInt32 >>> (((1 : Int32)).toUInt32 &&& Int32.toUInt32 31)).toInt32 &&& (1431655765 : Int32)))).toUInt32 >>> (((2 : Int32)).toUInt32 &&& Int32.toUInt32 31)).toInt32 &&& (858993459 : Int32)))).toUInt32 >>> (((4 : Int32)).toUInt32 &&& Int32.toUInt32 31)).toInt32) &&& (252645135 : Int32)) + (((((((x0 - (((x0).toUInt32 >>> (((1 : Int32)).toUInt32 &&& Int32.toUInt32 31)).toInt32 &&& (1431655765 : Int32))) &&& (858993459 : Int32)) + ((((x0 - (((x0).toUInt32 >>> (((1 : Int32)).toUInt32 &&& Int32.toUInt32 31)).toInt32 &&& (1431655765 : Int32)))).toUInt32 >>> (((2 : Int32)).toUInt32 &&& Int32.toUInt32 31)).toInt32 &&& (858993459 : Int32))) + (((((x0 - (((x0).toUInt32 >>> (((1 : Int32)).toUInt32 &&& Int32.toUInt32 31)).toInt32 &&& (1431655765 : Int32))) &&& (858993459 : Int32)) + ((((x0 - (((x0).toUInt32 >>> (((1 : Int32)).toUInt32 &&& Int32.toUInt32 31)).toInt32 &&& (1431655765 : Int32)))).toUInt32 >>> (((2 : Int32)).toUInt32 &&& Int32.toUInt32 31)).toInt32 &&& (858993459 : Int32)))).toUInt32 >>> (((4 : Int32)).toUInt32 &&& Int32.toUInt32 31)).toInt32) &&& (252645135 : Int32))).toUInt32 >>> (((8 : Int32)).toUInt32 &&& Int32.toUInt32 31)).toInt32))]) hx hb dJ6_bitCount_0f7a4_40 rfl hl (by decide) rfl (fun ls hl => ?_)
  refine lv_iload_n hx hb dJ6_bitCount_0f7a4_41 rfl (lv_at hl 0 rfl) ?_
  refine lv_iload_n hx hb dJ6_bitCount_0f7a4_42 rfl (lv_at hl 0 rfl) ?_
  refine lv_bipush (v := (16 : Int32)) hx hb dJ6_bitCount_0f7a4_43 (by decide) ?_
  refine lv_iushr (v := ((((((((x0 - (((x0).toUInt32 >>> (((1 : Int32)).toUInt32 &&& Int32.toUInt32 31)).toInt32 &&& (1431655765 : Int32))) &&& (858993459 : Int32)) + ((((x0 - (((x0).toUInt32 >>> (((1 : Int32)).toUInt32 &&& Int32.toUInt32 31)).toInt32 &&& (1431655765 : Int32)))).toUInt32 >>> (((2 : Int32)).toUInt32 &&& Int32.toUInt32 31)).toInt32 &&& (858993459 : Int32))) + (((((x0 - (((x0).toUInt32 >>> (((1 : Int32)).toUInt32 &&& Int32.toUInt32 31)).toInt32 &&& (1431655765 : Int32))) &&& (858993459 : Int32)) + ((((x0 - (((x0).toUInt32 >>> (((1 : Int32)).toUInt32 &&& Int32.toUInt32 31)).toInt32 &&& (1431655765 : Int32)))).toUInt32 >>> (((2 : Int32)).toUInt32 &&& Int32.toUInt32 31)).toInt32 &&& (858993459 : Int32)))).toUInt32 >>> (((4 : Int32)).toUInt32 &&& Int32.toUInt32 31)).toInt32) &&& (252645135 : Int32)) + (((((((x0 - (((x0).toUInt32 >>> (((1 : Int32)).toUInt32 &&& Int32.toUInt32 31)).toInt32 &&& (1431655765 : Int32))) &&& (858993459 : Int32)) + ((((x0 - (((x0).toUInt32 >>> (((1 : Int32)).toUInt32 &&& Int32.toUInt32 31)).toInt32 &&& (1431655765 : Int32)))).toUInt32 >>> (((2 : Int32)).toUInt32 &&& Int32.toUInt32 31)).toInt32 &&& (858993459 : Int32))) + (((((x0 - (((x0).toUInt32 >>> (((1 : Int32)).toUInt32 &&& Int32.toUInt32 31)).toInt32 &&& (1431655765 : Int32))) &&& (858993459 : Int32)) + ((((x0 - (((x0).toUInt32 >>> (((1 : Int32)).toUInt32 &&& Int32.toUInt32 31)).toInt32 &&& (1431655765 : Int32)))).toUInt32 >>> (((2 : Int32)).toUInt32 &&& Int32.toUInt32 31)).toInt32 &&& (858993459 : Int32)))).toUInt32 >>> (((4 : Int32)).toUInt32 &&& Int32.toUInt32 31)).toInt32) &&& (252645135 : Int32))).toUInt32 >>> (((8 : Int32)).toUInt32 &&& Int32.toUInt32 31)).toInt32)).toUInt32 >>> (((16 : Int32)).toUInt32 &&& Int32.toUInt32 31)).toInt32) hx hb dJ6_bitCount_0f7a4_45 rfl ?_
  refine lv_iadd hx hb dJ6_bitCount_0f7a4_46 ?_
  refine lv_istore_n (lv' := [(0, .int (((((((x0 - (((x0).toUInt32 >>> (((1 : Int32)).toUInt32 &&& Int32.toUInt32 31)).toInt32 &&& (1431655765 : Int32))) &&& (858993459 : Int32)) + ((((x0 - (((x0).toUInt32 >>> (((1 : Int32)).toUInt32 &&& Int32.toUInt32 31)).toInt32 &&& (1431655765 : Int32)))).toUInt32 >>> (((2 : Int32)).toUInt32 &&& Int32.toUInt32 31)).toInt32 &&& (858993459 : Int32))) + (((((x0 - (((x0).toUInt32 >>> (((1 : Int32)).toUInt32 &&& Int32.toUInt32 31)).toInt32 &&& (1431655765 : Int32))) &&& (858993459 : Int32)) + ((((x0 - (((x0).toUInt32 >>> (((1 : Int32)).toUInt32 &&& Int32.toUInt32 31)).toInt32 &&& (1431655765 : Int32)))).toUInt32 >>> (((2 : Int32)).toUInt32 &&& Int32.toUInt32 31)).toInt32 &&& (858993459 : Int32)))).toUInt32 >>> (((4 : Int32)).toUInt32 &&& Int32.toUInt32 31)).toInt32) &&& (252645135 : Int32)) + (((((((x0 - (((x0).toUInt32 >>> (((1 : Int32)).toUInt32 &&& Int32.toUInt32 31)).toInt32 &&& (1431655765 : Int32))) &&& (858993459 : Int32)) + ((((x0 - (((x0).toUInt32 >>> (((1 : Int32)).toUInt32 &&& Int32.toUInt32 31)).toInt32 &&& (1431655765 : Int32)))).toUInt32 >>> (((2 : Int32)).toUInt32 &&& Int32.toUInt32 31)).toInt32 &&& (858993459 : Int32))) + (((((x0 - (((x0).toUInt32 >>> (((1 : Int32)).toUInt32 &&& Int32.toUInt32 31)).toInt32 &&& (1431655765 : Int32))) &&& (858993459 : Int32)) + ((((x0 - (((x0).toUInt32 >>> (((1 : Int32)).toUInt32 &&& Int32.toUInt32 31)).toInt32 &&& (1431655765 : Int32)))).toUInt32 >>> (((2 : Int32)).toUInt32 &&& Int32.toUInt32 31)).toInt32 &&& (858993459 : Int32)))).toUInt32 >>> (((4 : Int32)).toUInt32 &&& Int32.toUInt32 31)).toInt32) &&& (252645135 : Int32))).toUInt32 >>> (((8 : Int32)).toUInt32 &&& Int32.toUInt32 31)).toInt32) + ((((((((x0 - (((x0).toUInt32 >>> (((1 : Int32)).toUInt32 &&& Int32.toUInt32 31)).toInt32 &&& (1431655765 : Int32))) &&& (858993459 : Int32)) + ((((x0 - (((x0).toUInt32 >>> (((1 : Int32)).toUInt32 &&& Int32.toUInt32 31)).toInt32 &&& (1431655765 : Int32)))).toUInt32 >>> (((2 : Int32)).toUInt32 &&& Int32.toUInt32 31)).toInt32 &&& (858993459 : Int32))) + (((((x0 - (((x0).toUInt32 >>> (((1 : Int32)).toUInt32 &&& Int32.toUInt32 31)).toInt32 &&& (1431655765 : Int32))) &&& (858993459 : Int32)) + ((((x0 - (((x0).toUInt32 >>> (((1 : Int32)).toUInt32 &&& Int32.toUInt32 31)).toInt32 &&& (1431655765 : Int32)))).toUInt32 >>> (((2 : Int32)).toUInt32 &&& Int32.toUInt32 31)).toInt32 &&& (858993459 : Int32)))).toUInt32 >>> (((4 : Int32)).toUInt32 &&& Int32.toUInt32 31)).toInt32) &&& (252645135 : Int32)) + (((((((x0 - (((x0).toUInt32 >>> (((1 : Int32)).toUInt32 &&& Int32.toUInt32 31)).toInt32 &&& (1431655765 : Int32))) &&& (858993459 : Int32)) + ((((x0 - (((x0).toUInt32 >>> (((1 : Int32)).toUInt32 &&& Int32.toUInt32 31)).toInt32 &&& (1431655765 : Int32)))).toUInt32 >>> (((2 : Int32)).toUInt32 &&& Int32.toUInt32 31)).toInt32 &&& (858993459 : Int32))) + (((((x0 - (((x0).toUInt32 >>> (((1 : Int32)).toUInt32 &&& Int32.toUInt32 31)).toInt32 &&& (1431655765 : Int32))) &&& (858993459 : Int32)) + ((((x0 - (((x0).toUInt32 >>> (((1 : Int32)).toUInt32 &&& Int32.toUInt32 31)).toInt32 &&& (1431655765 : Int32)))).toUInt32 >>> (((2 : Int32)).toUInt32 &&& Int32.toUInt32 31)).toInt32 &&& (858993459 : Int32)))).toUInt32 >>> (((4 : Int32)).toUInt32 &&& Int32.toUInt32 31)).toInt32) &&& (252645135 : Int32))).toUInt32 >>> (((8 : Int32)).toUInt32 &&& Int32.toUInt32 31)).toInt32)).toUInt32 >>> (((16 : Int32)).toUInt32 &&& Int32.toUInt32 31)).toInt32))]) hx hb dJ6_bitCount_0f7a4_47 rfl hl (by decide) rfl (fun ls hl => ?_)
  refine lv_iload_n hx hb dJ6_bitCount_0f7a4_48 rfl (lv_at hl 0 rfl) ?_
  refine lv_bipush (v := (63 : Int32)) hx hb dJ6_bitCount_0f7a4_49 (by decide) ?_
  refine lv_iand hx hb dJ6_bitCount_0f7a4_51 ?_
  cases hf
  exact hend _ _ _ _ dJ6_bitCount_0f7a4_52 rfl hP hS
theorem sg_X5_isIn : kSig yX5_isIn wsX5_isIn cX5_isIn 2 (some .boolean) RX5 2 := ⟨⟨_, rfl⟩, rfl, by decide, by decide +kernel, by decide +kernel, by decide +kernel⟩
abbrev rm_X5_isIn : Room := { frames := 0, cells := 0, slots := 0, locals := 0 }
set_option maxHeartbeats 4000000 in
set_option maxRecDepth 100000 in
theorem c_X5_isIn (l : Launch) (dC : Nat → ClassId) (dI : Nat → Nat → Nat) (cI cZ : ClassId) (x0 : Int32) (x1 : Int32) (u : Int32) (hf : f_X5_isIn x0 x1 = some u) : kMi l yX5_isIn wsX5_isIn rm_X5_isIn (dC, dI) (kTy cI cZ) [.int x0, .int x1] [] [] u := by
  refine kMi_of sg_X5_isIn ⟨rfl, rfl⟩ (Nat.le_of_ble_eq_true rfl) ?_
  intro p e s m args below meth c A H0 Q hx hb hml hown hts hK hN hA hend H locs ls hP hD hS hl
  have hl : lv_has ls 2 [(0, .int x0), (1, .int x1)] := hl
  unfold f_X5_isIn at hf
  refine lv_iload_n hx hb dX5_isIn_0 rfl (lv_at hl 1 rfl) ?_
  refine lv_if_lt (tgt := 23) hx hb dX5_isIn_1 (by decide) (fun c1 => ?_) (fun c1 => ?_)
  · replace hf := kt c1 hf
    refine lv_iconst (v := (0 : Int32)) hx hb dX5_isIn_23 (by decide) ?_
    cases hf
    exact hend _ _ _ _ dX5_isIn_24 rfl hP hS
  · replace hf := kf c1 hf
    refine lv_iload_n hx hb dX5_isIn_4 rfl (lv_at hl 1 rfl) ?_
    refine lv_bipush (v := (7 : Int32)) hx hb dX5_isIn_5 (by decide) ?_
    refine lv_icmp_ge (tgt := 23) hx hb dX5_isIn_7 (by decide) (fun c2 => ?_) (fun c2 => ?_)
    · replace hf := kt c2 hf
      refine lv_iconst (v := (0 : Int32)) hx hb dX5_isIn_23 (by decide) ?_
      cases hf
      exact hend _ _ _ _ dX5_isIn_24 rfl hP hS
    · replace hf := kf c2 hf
      refine lv_iload_n hx hb dX5_isIn_10 rfl (lv_at hl 0 rfl) ?_
      refine lv_iload_n hx hb dX5_isIn_11 rfl (lv_at hl 1 rfl) ?_
      refine lv_ishr hx hb dX5_isIn_12 ?_
      refine lv_iconst (v := (1 : Int32)) hx hb dX5_isIn_13 (by decide) ?_
      refine lv_iand hx hb dX5_isIn_14 ?_
      refine lv_iconst (v := (1 : Int32)) hx hb dX5_isIn_15 (by decide) ?_
      refine lv_icmp_ne (tgt := 23) hx hb dX5_isIn_16 (by decide) (fun c3 => ?_) (fun c3 => ?_)
      · replace hf := kf c3 hf
        refine lv_iconst (v := (0 : Int32)) hx hb dX5_isIn_23 (by decide) ?_
        cases hf
        exact hend _ _ _ _ dX5_isIn_24 rfl hP hS
      · replace hf := kt c3 hf
        refine lv_iconst (v := (1 : Int32)) hx hb dX5_isIn_19 (by decide) ?_
        refine lv_goto (tgt := 24) hx hb dX5_isIn_20 (by decide) ?_
        cases hf
        exact hend _ _ _ _ dX5_isIn_24 rfl hP hS
theorem sg_X1_take : kSig yX1_take wsX1_take cX1_take 3 none RX1 1 := ⟨⟨_, rfl⟩, rfl, by decide, by decide +kernel, by decide +kernel, by decide +kernel⟩
abbrev rm_X1_take : Room := { frames := 1, cells := 0, slots := 0, locals := 21 }
set_option maxRecDepth 20000 in
theorem in_X1_take_X1 : ∀ w ∈ u_ws RX1 TX1 1, w ∈ wsX1_take := by decide +kernel
set_option maxHeartbeats 4000000 in
set_option maxRecDepth 100000 in
theorem c_X1_take (l : Launch) (dC : Nat → ClassId) (dI : Nat → Nat → Nat) (cI cZ : ClassId) (a_o a_o_cells a_p1 a_p1_cells : Nat) (n_o_cells n_p1_cells : Nat) (f_o_cells : Nat → Int32) (f_p1_cells : Nat → Int32)  (u : (Nat → Int32)) (hf : f_X1_take n_o_cells n_p1_cells f_p1_cells f_o_cells = some u) : kMv l yX1_take wsX1_take rm_X1_take (dC, dI) (kTy cI cZ) [.ref a_o, .ref a_p1] [(a_o, .inr (1, [.ref a_o_cells])), (a_o_cells, .inl (cI, n_o_cells, .inl f_o_cells)), (a_p1, .inr (1, [.ref a_p1_cells])), (a_p1_cells, .inl (cI, n_p1_cells, .inl f_p1_cells))] [(a_o, .inr (1, [.ref a_o_cells])), (a_o_cells, .inl (cI, n_o_cells, .inl u)), (a_p1, .inr (1, [.ref a_p1_cells])), (a_p1_cells, .inl (cI, n_p1_cells, .inl f_p1_cells))]  := by
  refine kMv_of sg_X1_take ⟨rfl, rfl⟩ (Nat.le_of_ble_eq_true rfl) ?_
  intro p e s m args below meth c A H0 Q hx hb hml hown hts hK hN hA hend H locs ls hP hD hS hl
  have hl : lv_has ls 3 [(0, .ref a_o), (1, .ref a_p1)] := hl
  have hk13 := hts (.fieldLink RX1 13 "YoungestHouse$Row" "cells" "[I") (by decide +kernel)
  have J_2 : ∀ (n_2 : Nat), ∀ (f_o_cells : Nat → Int32) (x2 : Int32) (H : Heap) (locs : List Loc) (ls : Array Slot), va_P (dC, dI) vwCl [(a_o, .inr (1, [.ref a_o_cells])), (a_o_cells, .inl (cI, n_o_cells, .inl f_o_cells)), (a_p1, .inr (1, [.ref a_p1_cells])), (a_p1_cells, .inl (cI, n_p1_cells, .inl f_p1_cells))] H → va_D A [(a_o, .inr (1, [.ref a_o_cells])), (a_o_cells, .inl (cI, n_o_cells, .inl f_o_cells)), (a_p1, .inr (1, [.ref a_p1_cells])), (a_p1_cells, .inl (cI, n_p1_cells, .inl f_p1_cells))] → va_S A H0 H locs → lv_has ls 3 [(0, .ref a_o), (1, .ref a_p1), (2, .int x2)] → f_X1_take_2 n_o_cells n_p1_cells f_p1_cells n_2 f_o_cells x2 = some u → W p l e rm_X1_take s m args below meth c H locs 0 0 Q (F0 m 2 ls []) := by
    intro n_2
    induction n_2 with
    | zero => intro f_o_cells x2 H locs ls hP hD hS hl hf; exact nomatch hf
    | succ n_2 ih_2 =>
      intro f_o_cells x2 H locs ls hP hD hS hl hf
      have hf : f_X1_take_2_b n_o_cells n_p1_cells f_p1_cells (f_X1_take_2 n_o_cells n_p1_cells f_p1_cells n_2) f_o_cells x2 = some u := hf
      unfold f_X1_take_2_b at hf
      refine lv_iload_n hx hb dX1_take_2 rfl (lv_at hl 2 rfl) ?_
      refine lv_aload_n hx hb dX1_take_3 rfl (lv_at hl 0 rfl) ?_
      refine va_get (D := (dC, dI)) (ci := 1) (v := .ref a_o_cells) (C := RX1) (T := TX1) (N := 1) hx hb hts in_X1_take_X1 hown hK hP 0 rfl rfl 0 (by decide) hk13 (fun _ h9 => h9) rfl dX1_take_4 ?_
      refine va_alen (v := (Int32.ofNat n_o_cells)) hx hb hK hP 1 0 rfl rfl rfl dX1_take_7 ?_
      refine lv_icmp_ge (tgt := 28) hx hb dX1_take_8 (by decide) (fun c1 => ?_) (fun c1 => ?_)
      · replace hf := kt c1 hf
        cases hf
        exact hend _ _ _ _ dX1_take_28 hP hS
      · replace hf := kf c1 hf
        refine lv_aload_n hx hb dX1_take_11 rfl (lv_at hl 0 rfl) ?_
        refine va_get (D := (dC, dI)) (ci := 1) (v := .ref a_o_cells) (C := RX1) (T := TX1) (N := 1) hx hb hts in_X1_take_X1 hown hK hP 0 rfl rfl 0 (by decide) hk13 (fun _ h9 => h9) rfl dX1_take_12 ?_
        refine lv_iload_n hx hb dX1_take_15 rfl (lv_at hl 2 rfl) ?_
        refine lv_aload_n hx hb dX1_take_16 rfl (lv_at hl 1 rfl) ?_
        refine lv_iload_n hx hb dX1_take_17 rfl (lv_at hl 2 rfl) ?_
        obtain ⟨u2, hu2, hf⟩ := kb1_e hf
        refine kc_i (wn := [(a_o, .inr (1, [.ref a_o_cells])), (a_o_cells, .inl (cI, n_o_cells, .inl f_o_cells)), (a_p1, .inr (1, [.ref a_p1_cells])), (a_p1_cells, .inl (cI, n_p1_cells, .inl f_p1_cells))]) (wr := [(a_o, .inr (1, [.ref a_o_cells])), (a_o_cells, .inl (cI, n_o_cells, .inl f_o_cells))]) (kr_V (As := [.int x2]) (rest := [.int x2, .ref a_o_cells]) ⟨hx, hb, hml, hown, hts⟩ hK hN hP hD hl.1 (c_X1_get l dC dI cI cZ a_p1 a_p1_cells n_p1_cells f_p1_cells x2 u2 hu2 H.size) sg_X1_get ⟨rfl, rfl⟩ ⟨Nat.le_of_ble_eq_true rfl, Nat.le_of_ble_eq_true rfl⟩ gX1_take_X1_get 2 rfl rfl rfl [2, 3] (by decide +kernel) rfl rfl rfl (Nat.le_of_ble_eq_true rfl) dX1_take_18 ⟨Nat.zero_le _, Nat.zero_le _⟩) hA hP hD hS [2, 3] [0, 1] 4 rfl rfl rfl rfl rfl (by decide +kernel) (by decide +kernel) rfl (fun H locs hP hD hS => ?_)
        obtain ⟨hg3, hf⟩ := kg_e hf
        refine ka_ist (k := (x2).toNatClampNeg) hx hb hK hP hD hS 1 0 rfl rfl (kin_e hg3) rfl dX1_take_21 (fun H locs hP hD hS => ?_)
        have hP : va_P (dC, dI) vwCl [(a_o, .inr (1, [.ref a_o_cells])), (a_o_cells, .inl (cI, n_o_cells, .inl (upd f_o_cells ((x2).toNatClampNeg) u2))), (a_p1, .inr (1, [.ref a_p1_cells])), (a_p1_cells, .inl (cI, n_p1_cells, .inl f_p1_cells))] H := hP
        have hD : va_D A [(a_o, .inr (1, [.ref a_o_cells])), (a_o_cells, .inl (cI, n_o_cells, .inl (upd f_o_cells ((x2).toNatClampNeg) u2))), (a_p1, .inr (1, [.ref a_p1_cells])), (a_p1_cells, .inl (cI, n_p1_cells, .inl f_p1_cells))] := hD
        refine lv_iinc (v := (x2 + (1 : Int32))) (lv' := [(2, .int (x2 + (1 : Int32))), (0, .ref a_o), (1, .ref a_p1)]) hx hb dX1_take_22 hl (k := 2) rfl rfl (by decide) rfl (fun ls hl => ?_)
        refine lv_goto (tgt := 2) hx hb dX1_take_25 (by decide) ?_
        exact ih_2 (upd f_o_cells ((x2).toNatClampNeg) u2) (x2 + (1 : Int32)) H locs ls hP hD hS (lv_sub hl [1, 2, 0] rfl) hf
  unfold f_X1_take at hf
  refine lv_iconst (v := (0 : Int32)) hx hb dX1_take_0 (by decide) ?_
  refine lv_istore_n (lv' := [(2, .int (0 : Int32)), (0, .ref a_o), (1, .ref a_p1)]) hx hb dX1_take_1 rfl hl (by decide) rfl (fun ls hl => ?_)
  exact J_2 1000 f_o_cells (0 : Int32) H locs ls hP hD hS (lv_sub hl [1, 2, 0] rfl) hf
theorem sg_X5_power : kSig yX5_power wsX5_power cX5_power 4 (some .int) RX5 2 := ⟨⟨_, rfl⟩, rfl, by decide, by decide +kernel, by decide +kernel, by decide +kernel⟩
abbrev rm_X5_power : Room := { frames := 0, cells := 0, slots := 0, locals := 0 }
set_option maxHeartbeats 4000000 in
set_option maxRecDepth 100000 in
theorem c_X5_power (l : Launch) (dC : Nat → ClassId) (dI : Nat → Nat → Nat) (cI cZ : ClassId) (x0 : Int32) (x1 : Int32) (u : Int32) (hf : f_X5_power x0 x1 = some u) : kMi l yX5_power wsX5_power rm_X5_power (dC, dI) (kTy cI cZ) [.int x0, .int x1] [] [] u := by
  refine kMi_of sg_X5_power ⟨rfl, rfl⟩ (Nat.le_of_ble_eq_true rfl) ?_
  intro p e s m args below meth c A H0 Q hx hb hml hown hts hK hN hA hend H locs ls hP hD hS hl
  have hl : lv_has ls 4 [(0, .int x0), (1, .int x1)] := hl
  have J_4 : ∀ (n_4 : Nat), ∀ (x2 : Int32) (x3 : Int32) (H : Heap) (locs : List Loc) (ls : Array Slot), va_P (dC, dI) vwCl [] H → va_D A [] → va_S A H0 H locs → lv_has ls 4 [(0, .int x0), (1, .int x1), (2, .int x2), (3, .int x3)] → f_X5_power_4 x0 x1 n_4 x2 x3 = some u → W p l e rm_X5_power s m args below meth c H locs 0 0 Q (F0 m 4 ls []) := by
    intro n_4
    induction n_4 with
    | zero => intro x2 x3 H locs ls hP hD hS hl hf; exact nomatch hf
    | succ n_4 ih_4 =>
      intro x2 x3 H locs ls hP hD hS hl hf
      have hf : f_X5_power_4_b x0 x1 (f_X5_power_4 x0 x1 n_4) x2 x3 = some u := hf
      unfold f_X5_power_4_b at hf
      refine lv_iload_n hx hb dX5_power_4 rfl (lv_at hl 3 rfl) ?_
      refine lv_iload_n hx hb dX5_power_5 rfl (lv_at hl 1 rfl) ?_
      refine lv_icmp_ge (tgt := 19) hx hb dX5_power_6 (by decide) (fun c1 => ?_) (fun c1 => ?_)
      · replace hf := kt c1 hf
        refine lv_iload_n hx hb dX5_power_19 rfl (lv_at hl 2 rfl) ?_
        cases hf
        exact hend _ _ _ _ dX5_power_20 rfl hP hS
      · replace hf := kf c1 hf
        refine lv_iload_n hx hb dX5_power_9 rfl (lv_at hl 2 rfl) ?_
        refine lv_iload_n hx hb dX5_power_10 rfl (lv_at hl 0 rfl) ?_
        refine lv_imul hx hb dX5_power_11 ?_
        refine lv_istore_n (lv' := [(2, .int (x2 * x0)), (0, .int x0), (1, .int x1), (3, .int x3)]) hx hb dX5_power_12 rfl hl (by decide) rfl (fun ls hl => ?_)
        refine lv_iinc (v := (x3 + (1 : Int32))) (lv' := [(3, .int (x3 + (1 : Int32))), (2, .int (x2 * x0)), (0, .int x0), (1, .int x1)]) hx hb dX5_power_13 hl (k := 3) rfl rfl (by decide) rfl (fun ls hl => ?_)
        refine lv_goto (tgt := 4) hx hb dX5_power_16 (by decide) ?_
        exact ih_4 (x2 * x0) (x3 + (1 : Int32)) H locs ls hP hD hS (lv_sub hl [2, 3, 1, 0] rfl) hf
  unfold f_X5_power at hf
  refine lv_iconst (v := (1 : Int32)) hx hb dX5_power_0 (by decide) ?_
  refine lv_istore_n (lv' := [(2, .int (1 : Int32)), (0, .int x0), (1, .int x1)]) hx hb dX5_power_1 rfl hl (by decide) rfl (fun ls hl => ?_)
  refine lv_iconst (v := (0 : Int32)) hx hb dX5_power_2 (by decide) ?_
  refine lv_istore_n (lv' := [(3, .int (0 : Int32)), (2, .int (1 : Int32)), (0, .int x0), (1, .int x1)]) hx hb dX5_power_3 rfl hl (by decide) rfl (fun ls hl => ?_)
  exact J_4 1000 (1 : Int32) (0 : Int32) H locs ls hP hD hS (lv_sub hl [2, 3, 1, 0] rfl) hf
