theorem sg_X5_inLeastTerms : kSig yX5_inLeastTerms wsX5_inLeastTerms cX5_inLeastTerms 7 (some .int) RX5 3 := ⟨⟨_, rfl⟩, rfl, by decide, by decide +kernel, by decide +kernel, by decide +kernel⟩
abbrev rm_X5_inLeastTerms : Room := { frames := 0, cells := 0, slots := 0, locals := 0 }
set_option maxHeartbeats 4000000 in
set_option maxRecDepth 100000 in
theorem c_X5_inLeastTerms (l : Launch) (dC : Nat → ClassId) (dI : Nat → Nat → Nat) (cI cZ : ClassId) (x0 : Int32) (x1 : Int32) (x2 : Int32) (u : Int32) (hf : f_X5_inLeastTerms x0 x1 x2 = some u) : kMi l yX5_inLeastTerms wsX5_inLeastTerms rm_X5_inLeastTerms (dC, dI) (kTy cI cZ) [.int x0, .int x1, .int x2] [] [] u := by
  refine kMi_of sg_X5_inLeastTerms ⟨rfl, rfl⟩ (Nat.le_of_ble_eq_true rfl) ?_
  intro p e s m args below meth c A H0 Q hx hb hml hown hts hK hN hA hend H locs ls hP hD hS hl
  have hl : lv_has ls 7 [(0, .int x0), (1, .int x1), (2, .int x2)] := hl
  have J_54 : ∀ (x3 : Int32) (t0 : Int32) (H : Heap) (locs : List Loc) (ls : Array Slot), va_P (dC, dI) vwCl [] H → va_D A [] → va_S A H0 H locs → lv_has ls 7 [(3, .int x3)] → f_X5_inLeastTerms_54 x0 x1 x2 x3 t0 = some u → W p l e rm_X5_inLeastTerms s m args below meth c H locs 0 0 Q (F0 m 54 ls [.int t0]) := by
    intro x3 t0 H locs ls hP hD hS hl hf
    unfold f_X5_inLeastTerms_54 at hf
    refine lv_iload_n hx hb dX5_inLeastTerms_54 rfl (lv_at hl 0 rfl) ?_
    obtain ⟨hg1, hf⟩ := kg_e hf
    refine lv_idiv hx hb dX5_inLeastTerms_55 (knz_e hg1) ?_
    cases hf
    exact hend _ _ _ _ dX5_inLeastTerms_56 rfl hP hS
  have J_39 : ∀ (x3 : Int32) (H : Heap) (locs : List Loc) (ls : Array Slot), va_P (dC, dI) vwCl [] H → va_D A [] → va_S A H0 H locs → lv_has ls 7 [(0, .int x0), (1, .int x1), (2, .int x2), (3, .int x3)] → f_X5_inLeastTerms_39 x0 x1 x2 x3 = some u → W p l e rm_X5_inLeastTerms s m args below meth c H locs 0 0 Q (F0 m 39 ls []) := by
    intro x3 H locs ls hP hD hS hl hf
    unfold f_X5_inLeastTerms_39 at hf
    refine lv_iload_n hx hb dX5_inLeastTerms_39 rfl (lv_at hl 3 rfl) ?_
    refine lv_if_ne (tgt := 45) hx hb dX5_inLeastTerms_40 (by decide) (fun c2 => ?_) (fun c2 => ?_)
    · replace hf := kf c2 hf
      refine lv_iload_n hx hb dX5_inLeastTerms_45 rfl (lv_at hl 2 rfl) ?_
      refine lv_if_eq (tgt := 53) hx hb dX5_inLeastTerms_46 (by decide) (fun c3 => ?_) (fun c3 => ?_)
      · replace hf := kt c3 hf
        refine lv_iload_n hx hb dX5_inLeastTerms_53 rfl (lv_at hl 1 rfl) ?_
        exact J_54 x3 x1 H locs ls hP hD hS (lv_sub hl [3] rfl) hf
      · replace hf := kf c3 hf
        refine lv_iload_n hx hb dX5_inLeastTerms_49 rfl (lv_at hl 0 rfl) ?_
        refine lv_goto (tgt := 54) hx hb dX5_inLeastTerms_50 (by decide) ?_
        exact J_54 x3 x0 H locs ls hP hD hS (lv_sub hl [3] rfl) hf
    · replace hf := kt c2 hf
      refine lv_iconst (v := (0 : Int32)) hx hb dX5_inLeastTerms_43 (by decide) ?_
      cases hf
      exact hend _ _ _ _ dX5_inLeastTerms_44 rfl hP hS
  have J_8 : ∀ (n_8 : Nat), ∀ (x3 : Int32) (x4 : Int32) (x5 : Int32) (H : Heap) (locs : List Loc) (ls : Array Slot), va_P (dC, dI) vwCl [] H → va_D A [] → va_S A H0 H locs → lv_has ls 7 [(0, .int x0), (1, .int x1), (2, .int x2), (3, .int x3), (4, .int x4), (5, .int x5)] → f_X5_inLeastTerms_8 x0 x1 x2 n_8 x3 x4 x5 = some u → W p l e rm_X5_inLeastTerms s m args below meth c H locs 0 0 Q (F0 m 8 ls []) := by
    intro n_8
    induction n_8 with
    | zero => intro x3 x4 x5 H locs ls hP hD hS hl hf; exact nomatch hf
    | succ n_8 ih_8 =>
      intro x3 x4 x5 H locs ls hP hD hS hl hf
      have hf : f_X5_inLeastTerms_8_b x0 x1 x2 (f_X5_inLeastTerms_8 x0 x1 x2 n_8) x3 x4 x5 = some u := hf
      unfold f_X5_inLeastTerms_8_b at hf
      refine lv_iload hx hb dX5_inLeastTerms_8 (lv_at hl 4 rfl) ?_
      refine lv_if_eq (tgt := 39) hx hb dX5_inLeastTerms_10 (by decide) (fun c4 => ?_) (fun c4 => ?_)
      · replace hf := kt c4 hf
        exact J_39 x3 H locs ls hP hD hS (lv_sub hl [0, 1, 2, 3] rfl) hf
      · replace hf := kf c4 hf
        refine lv_iload hx hb dX5_inLeastTerms_13 (lv_at hl 5 rfl) ?_
        refine lv_bipush (v := (100 : Int32)) hx hb dX5_inLeastTerms_15 (by decide) ?_
        refine lv_icmp_ge (tgt := 39) hx hb dX5_inLeastTerms_17 (by decide) (fun c5 => ?_) (fun c5 => ?_)
        · replace hf := kt c5 hf
          exact J_39 x3 H locs ls hP hD hS (lv_sub hl [0, 1, 2, 3] rfl) hf
        · replace hf := kf c5 hf
          refine lv_iload_n hx hb dX5_inLeastTerms_20 rfl (lv_at hl 3 rfl) ?_
          refine lv_iload hx hb dX5_inLeastTerms_21 (lv_at hl 4 rfl) ?_
          obtain ⟨hg6, hf⟩ := kg_e hf
          refine lv_irem hx hb dX5_inLeastTerms_23 (knz_e hg6) ?_
          refine lv_istore (lv' := [(6, .int (x3 - x3 / x4 * x4)), (0, .int x0), (1, .int x1), (2, .int x2), (3, .int x3), (4, .int x4), (5, .int x5)]) hx hb dX5_inLeastTerms_24 hl (by decide) rfl (fun ls hl => ?_)
          refine lv_iload hx hb dX5_inLeastTerms_26 (lv_at hl 5 rfl) ?_
          refine lv_istore_n (lv' := [(3, .int x4), (6, .int (x3 - x3 / x4 * x4)), (0, .int x0), (1, .int x1), (2, .int x2), (4, .int x4), (5, .int x5)]) hx hb dX5_inLeastTerms_28 rfl hl (by decide) rfl (fun ls hl => ?_)
          refine lv_iload hx hb dX5_inLeastTerms_29 (lv_at hl 1 rfl) ?_
          refine lv_istore (lv' := [(4, .int (x3 - x3 / x4 * x4)), (3, .int x4), (6, .int (x3 - x3 / x4 * x4)), (0, .int x0), (1, .int x1), (2, .int x2), (5, .int x5)]) hx hb dX5_inLeastTerms_31 hl (by decide) rfl (fun ls hl => ?_)
          refine lv_iinc (v := (x5 + (1 : Int32))) (lv' := [(5, .int (x5 + (1 : Int32))), (4, .int (x3 - x3 / x4 * x4)), (3, .int x4), (6, .int (x3 - x3 / x4 * x4)), (0, .int x0), (1, .int x1), (2, .int x2)]) hx hb dX5_inLeastTerms_33 hl (k := 6) rfl rfl (by decide) rfl (fun ls hl => ?_)
          refine lv_goto (tgt := 8) hx hb dX5_inLeastTerms_36 (by decide) ?_
          exact ih_8 x4 (x3 - x3 / x4 * x4) (x5 + (1 : Int32)) H locs ls hP hD hS (lv_sub hl [4, 5, 6, 2, 1, 0] rfl) hf
  unfold f_X5_inLeastTerms at hf
  refine lv_iload_n hx hb dX5_inLeastTerms_0 rfl (lv_at hl 0 rfl) ?_
  refine lv_istore_n (lv' := [(3, .int x0), (0, .int x0), (1, .int x1), (2, .int x2)]) hx hb dX5_inLeastTerms_1 rfl hl (by decide) rfl (fun ls hl => ?_)
  refine lv_iload_n hx hb dX5_inLeastTerms_2 rfl (lv_at hl 2 rfl) ?_
  refine lv_istore (lv' := [(4, .int x1), (3, .int x0), (0, .int x0), (1, .int x1), (2, .int x2)]) hx hb dX5_inLeastTerms_3 hl (by decide) rfl (fun ls hl => ?_)
  refine lv_iconst (v := (0 : Int32)) hx hb dX5_inLeastTerms_5 (by decide) ?_
  refine lv_istore (lv' := [(5, .int (0 : Int32)), (4, .int x1), (3, .int x0), (0, .int x0), (1, .int x1), (2, .int x2)]) hx hb dX5_inLeastTerms_6 hl (by decide) rfl (fun ls hl => ?_)
  exact J_8 1000 x0 x1 (0 : Int32) H locs ls hP hD hS (lv_sub hl [3, 4, 5, 2, 1, 0] rfl) hf
