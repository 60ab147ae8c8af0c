theorem sg_X5_about : kSig yX5_about wsX5_about cX5_about 2 (some .int) RX5 1 := ⟨⟨_, rfl⟩, rfl, by decide, by decide +kernel, by decide +kernel, by decide +kernel⟩
abbrev rm_X5_about : Room := { frames := 0, cells := 0, slots := 0, locals := 0 }
set_option maxRecDepth 20000 in
theorem in_X5_about_X0 : ∀ w ∈ u_ws RX0 TX0 4, w ∈ wsX5_about := by decide +kernel
set_option maxRecDepth 20000 in
theorem in_X5_about_X2 : ∀ w ∈ u_ws RX2 TX2 4, w ∈ wsX5_about := by decide +kernel
set_option maxRecDepth 20000 in
theorem in_X5_about_X3 : ∀ w ∈ u_ws RX3 TX3 2, w ∈ wsX5_about := by decide +kernel
set_option maxRecDepth 20000 in
theorem in_X5_about_X4 : ∀ w ∈ u_ws RX4 TX4 11, w ∈ wsX5_about := by decide +kernel
set_option maxRecDepth 20000 in
theorem in_X5_about_X5 : ∀ w ∈ u_ws RX5 TX5 9, w ∈ wsX5_about := by decide +kernel
set_option maxHeartbeats 4000000 in
set_option maxRecDepth 100000 in
theorem c_X5_about (l : Launch) (dC : Nat → ClassId) (dI : Nat → Nat → Nat) (cI cZ : ClassId) (a_o a_o_text a_o_now a_o_trial a_o_firstSlot a_o_secondSlot a_o_acts a_o_seen a_o_text_bytes a_o_now_worth a_o_now_birth a_o_now_home a_o_now_kind a_o_now_wealth a_o_acts_what a_o_acts_which a_o_acts_before a_o_seen_house a_o_seen_child a_o_seen_lived : Nat) (v_o_keptSlots : Int32) (v_o_seedNow : Int64) (v_o_text_length : Int32) (v_o_now_houses : Int32) (v_o_now_children : Int32) (v_o_now_living : Int32) (v_o_now_sideBits : Int32) (v_o_now_inherited : Int32) (v_o_now_theYear : Int32) (v_o_acts_count : Int32) (v_o_seen_count : Int32) (x1 : Int32) (u : Int32) (hf : f_X5_about v_o_text_length v_o_now_houses v_o_now_children v_o_now_living v_o_now_sideBits v_o_now_inherited v_o_now_theYear v_o_acts_count v_o_seen_count x1 = some u) : kMi l yX5_about wsX5_about rm_X5_about (dC, dI) (kTy cI cZ) [.ref a_o, .int x1] [(a_o, .inr (5, [.ref a_o_text, .ref a_o_now, .ref a_o_trial, .ref a_o_firstSlot, .ref a_o_secondSlot, .int v_o_keptSlots, .ref a_o_acts, .ref a_o_seen, .long v_o_seedNow])), (a_o_text, .inr (3, [.ref a_o_text_bytes, .int v_o_text_length])), (a_o_now, .inr (4, [.int v_o_now_houses, .int v_o_now_children, .int v_o_now_living, .int v_o_now_sideBits, .int v_o_now_inherited, .int v_o_now_theYear, .ref a_o_now_worth, .ref a_o_now_birth, .ref a_o_now_home, .ref a_o_now_kind, .ref a_o_now_wealth])), (a_o_acts, .inr (0, [.ref a_o_acts_what, .ref a_o_acts_which, .ref a_o_acts_before, .int v_o_acts_count])), (a_o_seen, .inr (2, [.ref a_o_seen_house, .ref a_o_seen_child, .ref a_o_seen_lived, .int v_o_seen_count]))] [(a_o, .inr (5, [.ref a_o_text, .ref a_o_now, .ref a_o_trial, .ref a_o_firstSlot, .ref a_o_secondSlot, .int v_o_keptSlots, .ref a_o_acts, .ref a_o_seen, .long v_o_seedNow])), (a_o_text, .inr (3, [.ref a_o_text_bytes, .int v_o_text_length])), (a_o_now, .inr (4, [.int v_o_now_houses, .int v_o_now_children, .int v_o_now_living, .int v_o_now_sideBits, .int v_o_now_inherited, .int v_o_now_theYear, .ref a_o_now_worth, .ref a_o_now_birth, .ref a_o_now_home, .ref a_o_now_kind, .ref a_o_now_wealth])), (a_o_acts, .inr (0, [.ref a_o_acts_what, .ref a_o_acts_which, .ref a_o_acts_before, .int v_o_acts_count])), (a_o_seen, .inr (2, [.ref a_o_seen_house, .ref a_o_seen_child, .ref a_o_seen_lived, .int v_o_seen_count]))] u := by
  refine kMi_of sg_X5_about ⟨rfl, rfl⟩ (Nat.le_of_ble_eq_true rfl) ?_
  intro p e s m args below meth c A H0 Q hx hb hml hown hts hK hN hA hend H locs ls hP hD hS hl
  have hl : lv_has ls 2 [(0, .ref a_o), (1, .int x1)] := hl
  have hk10 := hts (.fieldLink RX5 10 "YoungestHouse" "text" "LYoungestHouse$Text;") (by decide +kernel)
  have hk19 := hts (.fieldLink RX5 19 "YoungestHouse" "now" "LYoungestHouse$Town;") (by decide +kernel)
  have hk35 := hts (.fieldLink RX5 35 "YoungestHouse" "acts" "LYoungestHouse$Acts;") (by decide +kernel)
  have hk42 := hts (.fieldLink RX5 42 "YoungestHouse" "seen" "LYoungestHouse$Sightings;") (by decide +kernel)
  have hk46 := va_Nw.use (A := args) rfl (hN (.fieldLinkNest RX5 46 RX3 "length" "I" RX5) (by decide +kernel))
  have hk62 := va_Nw.use (A := args) rfl (hN (.fieldLinkNest RX5 62 RX0 "count" "I" RX5) (by decide +kernel))
  have hk68 := va_Nw.use (A := args) rfl (hN (.fieldLinkNest RX5 68 RX4 "houses" "I" RX5) (by decide +kernel))
  have hk71 := va_Nw.use (A := args) rfl (hN (.fieldLinkNest RX5 71 RX4 "children" "I" RX5) (by decide +kernel))
  have hk74 := va_Nw.use (A := args) rfl (hN (.fieldLinkNest RX5 74 RX4 "living" "I" RX5) (by decide +kernel))
  have hk77 := va_Nw.use (A := args) rfl (hN (.fieldLinkNest RX5 77 RX4 "sideBits" "I" RX5) (by decide +kernel))
  have hk80 := va_Nw.use (A := args) rfl (hN (.fieldLinkNest RX5 80 RX4 "inherited" "I" RX5) (by decide +kernel))
  have hk83 := va_Nw.use (A := args) rfl (hN (.fieldLinkNest RX5 83 RX4 "theYear" "I" RX5) (by decide +kernel))
  have hk86 := va_Nw.use (A := args) rfl (hN (.fieldLinkNest RX5 86 RX2 "count" "I" RX5) (by decide +kernel))
  unfold f_X5_about at hf
  refine lv_iload_n hx hb dX5_about_0 rfl (lv_at hl 1 rfl) ?_
  rcases Decidable.em (x1 = (0 : Int32)) with c1 | c1
  · replace hf := kt c1 hf
    refine lv_tableIn (off := 51) (tgt := 52) hx hb dX5_about_1 (by rw [c1]; decide) (by rw [c1]; decide) (by rw [c1]; rfl) (by decide) ?_
    refine lv_aload_n hx hb dX5_about_52 rfl (lv_at hl 0 rfl) ?_
    refine va_get (D := (dC, dI)) (ci := 5) (v := .ref a_o_now) (C := RX5) (T := TX5) (N := 9) hx hb hts in_X5_about_X5 hown hK hP 0 rfl rfl 1 (by decide) hk19 (fun _ h9 => h9) rfl dX5_about_53 ?_
    refine va_getN (D := (dC, dI)) (ci := 4) (v := .int v_o_now_houses) (C := RX4) (T := TX4) (N := 11) hx hb hts in_X5_about_X4 hown hK hP 2 rfl rfl 0 (by decide) hk68 (fun _ h9 => h9) rfl dX5_about_56 ?_
    cases hf
    exact hend _ _ _ _ dX5_about_59 rfl hP hS
  · replace hf := kf c1 hf
    rcases Decidable.em (x1 = (1 : Int32)) with c2 | c2
    · replace hf := kt c2 hf
      refine lv_tableIn (off := 59) (tgt := 60) hx hb dX5_about_1 (by rw [c2]; decide) (by rw [c2]; decide) (by rw [c2]; rfl) (by decide) ?_
      refine lv_aload_n hx hb dX5_about_60 rfl (lv_at hl 0 rfl) ?_
      refine va_get (D := (dC, dI)) (ci := 5) (v := .ref a_o_now) (C := RX5) (T := TX5) (N := 9) hx hb hts in_X5_about_X5 hown hK hP 0 rfl rfl 1 (by decide) hk19 (fun _ h9 => h9) rfl dX5_about_61 ?_
      refine va_getN (D := (dC, dI)) (ci := 4) (v := .int v_o_now_children) (C := RX4) (T := TX4) (N := 11) hx hb hts in_X5_about_X4 hown hK hP 2 rfl rfl 1 (by decide) hk71 (fun _ h9 => h9) rfl dX5_about_64 ?_
      cases hf
      exact hend _ _ _ _ dX5_about_67 rfl hP hS
    · replace hf := kf c2 hf
      rcases Decidable.em (x1 = (2 : Int32)) with c3 | c3
      · replace hf := kt c3 hf
        refine lv_tableIn (off := 67) (tgt := 68) hx hb dX5_about_1 (by rw [c3]; decide) (by rw [c3]; decide) (by rw [c3]; rfl) (by decide) ?_
        refine lv_aload_n hx hb dX5_about_68 rfl (lv_at hl 0 rfl) ?_
        refine va_get (D := (dC, dI)) (ci := 5) (v := .ref a_o_now) (C := RX5) (T := TX5) (N := 9) hx hb hts in_X5_about_X5 hown hK hP 0 rfl rfl 1 (by decide) hk19 (fun _ h9 => h9) rfl dX5_about_69 ?_
        refine va_getN (D := (dC, dI)) (ci := 4) (v := .int v_o_now_living) (C := RX4) (T := TX4) (N := 11) hx hb hts in_X5_about_X4 hown hK hP 2 rfl rfl 2 (by decide) hk74 (fun _ h9 => h9) rfl dX5_about_72 ?_
        cases hf
        exact hend _ _ _ _ dX5_about_75 rfl hP hS
      · replace hf := kf c3 hf
        rcases Decidable.em (x1 = (3 : Int32)) with c4 | c4
        · replace hf := kt c4 hf
          refine lv_tableIn (off := 75) (tgt := 76) hx hb dX5_about_1 (by rw [c4]; decide) (by rw [c4]; decide) (by rw [c4]; rfl) (by decide) ?_
          refine lv_aload_n hx hb dX5_about_76 rfl (lv_at hl 0 rfl) ?_
          refine va_get (D := (dC, dI)) (ci := 5) (v := .ref a_o_now) (C := RX5) (T := TX5) (N := 9) hx hb hts in_X5_about_X5 hown hK hP 0 rfl rfl 1 (by decide) hk19 (fun _ h9 => h9) rfl dX5_about_77 ?_
          refine va_getN (D := (dC, dI)) (ci := 4) (v := .int v_o_now_sideBits) (C := RX4) (T := TX4) (N := 11) hx hb hts in_X5_about_X4 hown hK hP 2 rfl rfl 3 (by decide) hk77 (fun _ h9 => h9) rfl dX5_about_80 ?_
          cases hf
          exact hend _ _ _ _ dX5_about_83 rfl hP hS
        · replace hf := kf c4 hf
          rcases Decidable.em (x1 = (4 : Int32)) with c5 | c5
          · replace hf := kt c5 hf
            refine lv_tableIn (off := 83) (tgt := 84) hx hb dX5_about_1 (by rw [c5]; decide) (by rw [c5]; decide) (by rw [c5]; rfl) (by decide) ?_
            refine lv_aload_n hx hb dX5_about_84 rfl (lv_at hl 0 rfl) ?_
            refine va_get (D := (dC, dI)) (ci := 5) (v := .ref a_o_now) (C := RX5) (T := TX5) (N := 9) hx hb hts in_X5_about_X5 hown hK hP 0 rfl rfl 1 (by decide) hk19 (fun _ h9 => h9) rfl dX5_about_85 ?_
            refine va_getN (D := (dC, dI)) (ci := 4) (v := .int v_o_now_inherited) (C := RX4) (T := TX4) (N := 11) hx hb hts in_X5_about_X4 hown hK hP 2 rfl rfl 4 (by decide) hk80 (fun _ h9 => h9) rfl dX5_about_88 ?_
            cases hf
            exact hend _ _ _ _ dX5_about_91 rfl hP hS
          · replace hf := kf c5 hf
            rcases Decidable.em (x1 = (5 : Int32)) with c6 | c6
            · replace hf := kt c6 hf
              refine lv_tableIn (off := 91) (tgt := 92) hx hb dX5_about_1 (by rw [c6]; decide) (by rw [c6]; decide) (by rw [c6]; rfl) (by decide) ?_
              refine lv_aload_n hx hb dX5_about_92 rfl (lv_at hl 0 rfl) ?_
              refine va_get (D := (dC, dI)) (ci := 5) (v := .ref a_o_now) (C := RX5) (T := TX5) (N := 9) hx hb hts in_X5_about_X5 hown hK hP 0 rfl rfl 1 (by decide) hk19 (fun _ h9 => h9) rfl dX5_about_93 ?_
              refine va_getN (D := (dC, dI)) (ci := 4) (v := .int v_o_now_theYear) (C := RX4) (T := TX4) (N := 11) hx hb hts in_X5_about_X4 hown hK hP 2 rfl rfl 5 (by decide) hk83 (fun _ h9 => h9) rfl dX5_about_96 ?_
              cases hf
              exact hend _ _ _ _ dX5_about_99 rfl hP hS
            · replace hf := kf c6 hf
              rcases Decidable.em (x1 = (6 : Int32)) with c7 | c7
              · replace hf := kt c7 hf
                refine lv_tableIn (off := 99) (tgt := 100) hx hb dX5_about_1 (by rw [c7]; decide) (by rw [c7]; decide) (by rw [c7]; rfl) (by decide) ?_
                refine lv_aload_n hx hb dX5_about_100 rfl (lv_at hl 0 rfl) ?_
                refine va_get (D := (dC, dI)) (ci := 5) (v := .ref a_o_acts) (C := RX5) (T := TX5) (N := 9) hx hb hts in_X5_about_X5 hown hK hP 0 rfl rfl 6 (by decide) hk35 (fun _ h9 => h9) rfl dX5_about_101 ?_
                refine va_getN (D := (dC, dI)) (ci := 0) (v := .int v_o_acts_count) (C := RX0) (T := TX0) (N := 4) hx hb hts in_X5_about_X0 hown hK hP 3 rfl rfl 3 (by decide) hk62 (fun _ h9 => h9) rfl dX5_about_104 ?_
                cases hf
                exact hend _ _ _ _ dX5_about_107 rfl hP hS
              · replace hf := kf c7 hf
                rcases Decidable.em (x1 = (7 : Int32)) with c8 | c8
                · replace hf := kt c8 hf
                  refine lv_tableIn (off := 107) (tgt := 108) hx hb dX5_about_1 (by rw [c8]; decide) (by rw [c8]; decide) (by rw [c8]; rfl) (by decide) ?_
                  refine lv_aload_n hx hb dX5_about_108 rfl (lv_at hl 0 rfl) ?_
                  refine va_get (D := (dC, dI)) (ci := 5) (v := .ref a_o_seen) (C := RX5) (T := TX5) (N := 9) hx hb hts in_X5_about_X5 hown hK hP 0 rfl rfl 7 (by decide) hk42 (fun _ h9 => h9) rfl dX5_about_109 ?_
                  refine va_getN (D := (dC, dI)) (ci := 2) (v := .int v_o_seen_count) (C := RX2) (T := TX2) (N := 4) hx hb hts in_X5_about_X2 hown hK hP 4 rfl rfl 3 (by decide) hk86 (fun _ h9 => h9) rfl dX5_about_112 ?_
                  cases hf
                  exact hend _ _ _ _ dX5_about_115 rfl hP hS
                · replace hf := kf c8 hf
                  rcases Decidable.em (x1 = (8 : Int32)) with c9 | c9
                  · replace hf := kt c9 hf
                    refine lv_tableIn (off := 115) (tgt := 116) hx hb dX5_about_1 (by rw [c9]; decide) (by rw [c9]; decide) (by rw [c9]; rfl) (by decide) ?_
                    refine lv_aload_n hx hb dX5_about_116 rfl (lv_at hl 0 rfl) ?_
                    refine va_get (D := (dC, dI)) (ci := 5) (v := .ref a_o_text) (C := RX5) (T := TX5) (N := 9) hx hb hts in_X5_about_X5 hown hK hP 0 rfl rfl 0 (by decide) hk10 (fun _ h9 => h9) rfl dX5_about_117 ?_
                    refine va_getN (D := (dC, dI)) (ci := 3) (v := .int v_o_text_length) (C := RX3) (T := TX3) (N := 2) hx hb hts in_X5_about_X3 hown hK hP 1 rfl rfl 1 (by decide) hk46 (fun _ h9 => h9) rfl dX5_about_120 ?_
                    cases hf
                    exact hend _ _ _ _ dX5_about_123 rfl hP hS
                  · replace hf := kf c9 hf
                    have b0 := kst0 (x1).toInt
                    have b1 := kst (k' := 1) b0 (lv_neT (a := 0) c1 rfl) (by decide)
                    have b2 := kst (k' := 2) b1 (lv_neT (a := 1) c2 rfl) (by decide)
                    have b3 := kst (k' := 3) b2 (lv_neT (a := 2) c3 rfl) (by decide)
                    have b4 := kst (k' := 4) b3 (lv_neT (a := 3) c4 rfl) (by decide)
                    have b5 := kst (k' := 5) b4 (lv_neT (a := 4) c5 rfl) (by decide)
                    have b6 := kst (k' := 6) b5 (lv_neT (a := 5) c6 rfl) (by decide)
                    have b7 := kst (k' := 7) b6 (lv_neT (a := 6) c7 rfl) (by decide)
                    have b8 := kst (k' := 8) b7 (lv_neT (a := 7) c8 rfl) (by decide)
                    have b9 := kst (k' := 9) b8 (lv_neT (a := 8) c9 rfl) (by decide)
                    refine lv_tableOut (tgt := 124) hx hb dX5_about_1 (kst_e (hi := 8) b9 (by decide)) (by decide) ?_
                    refine lv_bipush (v := (-2 : Int32)) hx hb dX5_about_124 (by decide) ?_
                    cases hf
                    exact hend _ _ _ _ dX5_about_126 rfl hP hS
