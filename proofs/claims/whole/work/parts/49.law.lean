/-! MATH 29: the law: every call, both sides -/
def RR (T : Nat) (ks : Int32) (sd : Int64) (tl : Int32) (tb : Nat → Int32) (ho : Int32) (ch : Int32) (li : Int32) (si : Int32) (ih : Int32) (ye : Int32) (wr : Nat → Int32) (bi : Nat → Int32) (hm : Nat → Int32) (ki : Nat → Int32) (we : Nat → Int32) (a1 : Int32) (a2 : Int32) (a3 : Int32) (a4 : Int32) (a5 : Int32) (a6 : Int32) (p1 : Nat → Int32) (p2 : Nat → Int32) (p3 : Nat → Int32) (p4 : Nat → Int32) (p5 : Nat → Int32) (b1 : Int32) (b2 : Int32) (b3 : Int32) (b4 : Int32) (b5 : Int32) (b6 : Int32) (r1 : Nat → Int32) (r2 : Nat → Int32) (r3 : Nat → Int32) (r4 : Nat → Int32) (r5 : Nat → Int32) (ac : Int32) (wt : Nat → Int32) (wh : Nat → Int32) (bf : Nat → Int32) (sn : Int32) (sh : Nat → Int32) (sc : Nat → Int32) (sl : Nat → Int32) (ts : Int32) (mho : Int32) (mac : Int32) (msn : Int32) (msd : Int64) (mt : Nat → Int32) (mw : Nat → Int32) (P : Nat → Int32) (bk : Nat → Int32) (kept : Nat → Int32) (isK : Nat → Int32) (mh : Nat → Int32) (mc : Nat → Int32) (ml : Nat → Int32) : Prop := ∃ n hs na ns : Nat, ∃ wo : Nat → Nat, tl = nI n ∧ ts = nI n ∧ mho = nI hs ∧ ac = nI na ∧ mac = nI na ∧ sn = nI ns ∧ msn = nI ns ∧ sd = msd ∧ TX n tb mt ∧ WO hs wo ∧ WM hs wo mw ∧ ST hs T wo na ho ch li si ih ye wr bi hm ki we wt wh bf P bk ∧ SL hs T wo ks a1 a2 a3 a4 a5 a6 p1 p2 p3 p4 p5 b1 b2 b3 b4 b5 b6 r1 r2 r3 r4 r5 kept isK ∧ SNE ns sh sc sl mh mc ml
theorem law_step {L i d : Nat} {xs : Nat → Int32} (hL : L ≤ 2048) (hi : 4 * i + 4 ≤ L)
    (IH : ∀ (ks : Int32) (sd : Int64) (tl : Int32) (tb : Nat → Int32) (ho : Int32) (ch : Int32) (li : Int32) (si : Int32) (ih : Int32) (ye : Int32) (wr : Nat → Int32) (bi : Nat → Int32) (hm : Nat → Int32) (ki : Nat → Int32) (we : Nat → Int32) (d1 : Int32) (d2 : Int32) (d3 : Int32) (d4 : Int32) (d5 : Int32) (d6 : Int32) (e1 : Nat → Int32) (e2 : Nat → Int32) (e3 : Nat → Int32) (e4 : Nat → Int32) (e5 : Nat → Int32) (a1 : Int32) (a2 : Int32) (a3 : Int32) (a4 : Int32) (a5 : Int32) (a6 : Int32) (p1 : Nat → Int32) (p2 : Nat → Int32) (p3 : Nat → Int32) (p4 : Nat → Int32) (p5 : Nat → Int32) (b1 : Int32) (b2 : Int32) (b3 : Int32) (b4 : Int32) (b5 : Int32) (b6 : Int32) (r1 : Nat → Int32) (r2 : Nat → Int32) (r3 : Nat → Int32) (r4 : Nat → Int32) (r5 : Nat → Int32) (ac : Int32) (wt : Nat → Int32) (wh : Nat → Int32) (bf : Nat → Int32) (sn : Int32) (sh : Nat → Int32) (sc : Nat → Int32) (sl : Nat → Int32) (th : Int32) (ts : Int32) (pl : Int32) (mho : Int32) (rH : Int32) (rC : Int32) (mac : Int32) (msn : Int32) (msd : Int64) (ro1 : Int32) (ro2 : Int32) (s1 : Int32) (s2 : Int32) (s3 : Int32) (s4 : Int32) (s5 : Int32) (rm : Int32) (rf : Int32) (mt : Nat → Int32) (mw : Nat → Int32) (rh : Nat → Int32) (rc : Nat → Int32) (P : Nat → Int32) (tr : Nat → Int32) (bk : Nat → Int32) (kept : Nat → Int32) (isK : Nat → Int32) (mh : Nat → Int32) (mc : Nat → Int32) (ml : Nat → Int32) (gn : Nat → Int32) (vl : Nat → Int32), RR (i + 1) ks sd tl tb ho ch li si ih ye wr bi hm ki we a1 a2 a3 a4 a5 a6 p1 p2 p3 p4 p5 b1 b2 b3 b4 b5 b6 r1 r2 r3 r4 r5 ac wt wh bf sn sh sc sl ts mho mac msn msd mt mw P bk kept isK mh mc ml → f_L_law_18 L xs d ks sd tl tb ho ch li si ih ye wr bi hm ki we d1 d2 d3 d4 d5 d6 e1 e2 e3 e4 e5 a1 a2 a3 a4 a5 a6 p1 p2 p3 p4 p5 b1 b2 b3 b4 b5 b6 r1 r2 r3 r4 r5 ac wt wh bf sn sh sc sl th ts pl mho rH rC mac msn msd ro1 ro2 s1 s2 s3 s4 s5 rm rf mt mw rh rc P tr bk kept isK mh mc ml gn vl (nI (4 * (i + 1))) = some 1)
    {ks : Int32} {sd : Int64} {tl : Int32} {tb : Nat → Int32} {ho : Int32} {ch : Int32} {li : Int32} {si : Int32} {ih : Int32} {ye : Int32} {wr : Nat → Int32} {bi : Nat → Int32} {hm : Nat → Int32} {ki : Nat → Int32} {we : Nat → Int32} {d1 : Int32} {d2 : Int32} {d3 : Int32} {d4 : Int32} {d5 : Int32} {d6 : Int32} {e1 : Nat → Int32} {e2 : Nat → Int32} {e3 : Nat → Int32} {e4 : Nat → Int32} {e5 : Nat → Int32} {a1 : Int32} {a2 : Int32} {a3 : Int32} {a4 : Int32} {a5 : Int32} {a6 : Int32} {p1 : Nat → Int32} {p2 : Nat → Int32} {p3 : Nat → Int32} {p4 : Nat → Int32} {p5 : Nat → Int32} {b1 : Int32} {b2 : Int32} {b3 : Int32} {b4 : Int32} {b5 : Int32} {b6 : Int32} {r1 : Nat → Int32} {r2 : Nat → Int32} {r3 : Nat → Int32} {r4 : Nat → Int32} {r5 : Nat → Int32} {ac : Int32} {wt : Nat → Int32} {wh : Nat → Int32} {bf : Nat → Int32} {sn : Int32} {sh : Nat → Int32} {sc : Nat → Int32} {sl : Nat → Int32} {th : Int32} {ts : Int32} {pl : Int32} {mho : Int32} {rH : Int32} {rC : Int32} {mac : Int32} {msn : Int32} {msd : Int64} {ro1 : Int32} {ro2 : Int32} {s1 : Int32} {s2 : Int32} {s3 : Int32} {s4 : Int32} {s5 : Int32} {rm : Int32} {rf : Int32} {mt : Nat → Int32} {mw : Nat → Int32} {rh : Nat → Int32} {rc : Nat → Int32} {P : Nat → Int32} {tr : Nat → Int32} {bk : Nat → Int32} {kept : Nat → Int32} {isK : Nat → Int32} {mh : Nat → Int32} {mc : Nat → Int32} {ml : Nat → Int32} {gn : Nat → Int32} {vl : Nat → Int32} (hR : RR i ks sd tl tb ho ch li si ih ye wr bi hm ki we a1 a2 a3 a4 a5 a6 p1 p2 p3 p4 p5 b1 b2 b3 b4 b5 b6 r1 r2 r3 r4 r5 ac wt wh bf sn sh sc sl ts mho mac msn msd mt mw P bk kept isK mh mc ml) : f_L_law_18_b L xs (f_L_law_18 L xs d) ks sd tl tb ho ch li si ih ye wr bi hm ki we d1 d2 d3 d4 d5 d6 e1 e2 e3 e4 e5 a1 a2 a3 a4 a5 a6 p1 p2 p3 p4 p5 b1 b2 b3 b4 b5 b6 r1 r2 r3 r4 r5 ac wt wh bf sn sh sc sl th ts pl mho rH rC mac msn msd ro1 ro2 s1 s2 s3 s4 s5 rm rf mt mw rh rc P tr bk kept isK mh mc ml gn vl (nI (4 * i)) = some 1 := by
  have hx4 : nI (4 * i) + (4 : Int32) = nI (4 * (i + 1)) := by rw [kl4, nI_add]; rfl
  have ih2 : ∀ {ks : Int32} {sd : Int64} {tl : Int32} {tb : Nat → Int32} {ho : Int32} {ch : Int32} {li : Int32} {si : Int32} {ih : Int32} {ye : Int32} {wr : Nat → Int32} {bi : Nat → Int32} {hm : Nat → Int32} {ki : Nat → Int32} {we : Nat → Int32} {d1 : Int32} {d2 : Int32} {d3 : Int32} {d4 : Int32} {d5 : Int32} {d6 : Int32} {e1 : Nat → Int32} {e2 : Nat → Int32} {e3 : Nat → Int32} {e4 : Nat → Int32} {e5 : Nat → Int32} {a1 : Int32} {a2 : Int32} {a3 : Int32} {a4 : Int32} {a5 : Int32} {a6 : Int32} {p1 : Nat → Int32} {p2 : Nat → Int32} {p3 : Nat → Int32} {p4 : Nat → Int32} {p5 : Nat → Int32} {b1 : Int32} {b2 : Int32} {b3 : Int32} {b4 : Int32} {b5 : Int32} {b6 : Int32} {r1 : Nat → Int32} {r2 : Nat → Int32} {r3 : Nat → Int32} {r4 : Nat → Int32} {r5 : Nat → Int32} {ac : Int32} {wt : Nat → Int32} {wh : Nat → Int32} {bf : Nat → Int32} {sn : Int32} {sh : Nat → Int32} {sc : Nat → Int32} {sl : Nat → Int32} {th : Int32} {ts : Int32} {pl : Int32} {mho : Int32} {rH : Int32} {rC : Int32} {mac : Int32} {msn : Int32} {msd : Int64} {ro1 : Int32} {ro2 : Int32} {s1 : Int32} {s2 : Int32} {s3 : Int32} {s4 : Int32} {s5 : Int32} {rm : Int32} {rf : Int32} {mt : Nat → Int32} {mw : Nat → Int32} {rh : Nat → Int32} {rc : Nat → Int32} {P : Nat → Int32} {tr : Nat → Int32} {bk : Nat → Int32} {kept : Nat → Int32} {isK : Nat → Int32} {mh : Nat → Int32} {mc : Nat → Int32} {ml : Nat → Int32} {gn : Nat → Int32} {vl : Nat → Int32}, RR (i + 1) ks sd tl tb ho ch li si ih ye wr bi hm ki we a1 a2 a3 a4 a5 a6 p1 p2 p3 p4 p5 b1 b2 b3 b4 b5 b6 r1 r2 r3 r4 r5 ac wt wh bf sn sh sc sl ts mho mac msn msd mt mw P bk kept isK mh mc ml → f_L_law_18 L xs d ks sd tl tb ho ch li si ih ye wr bi hm ki we d1 d2 d3 d4 d5 d6 e1 e2 e3 e4 e5 a1 a2 a3 a4 a5 a6 p1 p2 p3 p4 p5 b1 b2 b3 b4 b5 b6 r1 r2 r3 r4 r5 ac wt wh bf sn sh sc sl th ts pl mho rH rC mac msn msd ro1 ro2 s1 s2 s3 s4 s5 rm rf mt mw rh rc P tr bk kept isK mh mc ml gn vl (nI (4 * i) + (4 : Int32)) = some 1 := by intros; rw [hx4]; apply IH; assumption
  clear IH hx4
  have hk0 : kin (nI (4 * i)) L = true := kin_y (by omega) (by omega)
  have hk1 : kin (nI (4 * i) + (1 : Int32)) L = true := by rw [kl1, nI_add]; exact kin_y (by omega) (by omega)
  have hk2 : kin (nI (4 * i) + (2 : Int32)) L = true := by rw [kl2, nI_add]; exact kin_y (by omega) (by omega)
  have hk3 : kin (nI (4 * i) + (3 : Int32)) L = true := by rw [kl3, nI_add]; exact kin_y (by omega) (by omega)
  have hend : ¬ ((Int32.ofNat L) - (4 : Int32)) < nI (4 * i) := fun z => by
    have z2 : (nI L - nI 4) < nI (4 * i) := z
    rw [k_sub (by omega)] at z2
    exact nI_nlt (by omega) (by omega) z2
  obtain ⟨n, hs, na, ns, wo, rfl, rfl, rfl, rfl, rfl, rfl, rfl, rfl, hX, hwo, hmw, hS, hLL, hN⟩ := hR
  have hT : i < 600 := by omega
  have hS1 := hS.mono (Nat.le_succ i) (by omega)
  have hL1 := hLL.mono (Nat.le_succ i) (by omega)
  unfold f_L_law_18_b
  refine el_i hend (kg_i hk0 ?_)
  generalize (xs (nI (4 * i)).toNatClampNeg) &&& (31 : Int32) = op
  generalize hx1 : xs (nI (4 * i) + (1 : Int32)).toNatClampNeg = x1
  generalize hx2 : xs (nI (4 * i) + (2 : Int32)).toNatClampNeg = x2
  generalize hx3 : xs (nI (4 * i) + (3 : Int32)).toNatClampNeg = x3
  clear hend hk0
  refine ite_i (fun hk => ?_) (fun hk => ?_)
  · obtain ⟨r, n2, tb2, th2, mt2, E1, E2, hX2⟩ := cmd_write hX th x1
    refine kg_i hk1 ?_
    refine kb_i E1 ?_
    refine kg_i hk1 ?_
    refine kb_i E2 ?_
    refine if_i rfl ?_
    exact ih2 ⟨n2, hs, na, ns, wo, rfl, rfl, rfl, rfl, rfl, rfl, rfl, rfl, hX2, hwo, hmw, hS1, hL1, hN⟩
  refine ite_i (fun hk => ?_) (fun hk => ?_)
  · obtain ⟨th2, E1, E2, hX2⟩ := cmd_wipe (n := n) (tb := tb) (mt := mt) th
    refine kb_i E1 ?_
    refine kb_i E2 ?_
    refine if_i rfl ?_
    exact ih2 ⟨0, hs, na, ns, wo, rfl, rfl, rfl, rfl, rfl, rfl, rfl, rfl, hX2, hwo, hmw, hS1, hL1, hN⟩
  refine ite_i (fun hk => ?_) (fun hk => ?_)
  · obtain ⟨r, _, _, _, _, _, _, _, _, _, _, _, _, _, _, _, _, _, E1, E2⟩ := cmd_fault hX d1 d2 d3 d4 d5 d6 e1 e2 e3 e4 e5 th pl rH rC rh rc
    refine kb_i E1 ?_
    refine kb_i E2 ?_
    refine if_i rfl ?_
    exact ih2 ⟨n, hs, na, ns, wo, rfl, rfl, rfl, rfl, rfl, rfl, rfl, rfl, hX, hwo, hmw, hS1, hL1, hN⟩
  refine ite_i (fun hk => ?_) (fun hk => ?_)
  · obtain ⟨r, ks2, ho2, ch2, li2, si2, inh2, ye2, wr2, bi2, hm2, ki2, we2, _, _, _, _, _, _, _, _, _, _, _, na2, _, _, hs2, _, _, mw2, _, _, P2, isK2, wo3, E1, E2, hS2, hwo2, hmw2, hL2⟩ := cmd_town hX hS hT hwo hmw hLL d1 d2 d3 d4 d5 d6 e1 e2 e3 e4 e5 th pl rH rC rh rc
    refine kb_i E1 ?_
    refine kb_i E2 ?_
    refine if_i rfl ?_
    exact ih2 ⟨n, hs2, na2, ns, wo3, rfl, rfl, rfl, rfl, rfl, rfl, rfl, rfl, hX, hwo2, hmw2, hS2, hL2, hN⟩
  refine ite_i (fun hk => ?_) (fun hk => ?_)
  · obtain ⟨r, th2, E1, E2⟩ := cmd_about hS (nI n) (nI na) (nI ns) th x1
    refine kg_i hk1 ?_
    refine kb_i E1 ?_
    refine kg_i hk1 ?_
    refine kb_i E2 ?_
    refine if_i rfl ?_
    exact ih2 ⟨n, hs, na, ns, wo, rfl, rfl, rfl, rfl, rfl, rfl, rfl, rfl, hX, hwo, hmw, hS1, hL1, hN⟩
  refine ite_i (fun hk => ?_) (fun hk => ?_)
  · obtain ⟨r, th2, E1, E2⟩ := cmd_child hS th x1 x2
    refine kg_i hk1 ?_
    refine kg_i hk2 ?_
    refine kb_i E1 ?_
    refine kg_i hk1 ?_
    refine kg_i hk2 ?_
    refine kb_i E2 ?_
    refine if_i rfl ?_
    exact ih2 ⟨n, hs, na, ns, wo, rfl, rfl, rfl, rfl, rfl, rfl, rfl, rfl, hX, hwo, hmw, hS1, hL1, hN⟩
  refine ite_i (fun hk => ?_) (fun hk => ?_)
  · obtain ⟨r, th2, E1, E2⟩ := cmd_heirs hS th x1 x2
    refine kg_i hk1 ?_
    refine kg_i hk2 ?_
    refine kb_i E1 ?_
    refine kg_i hk1 ?_
    refine kg_i hk2 ?_
    refine kb_i E2 ?_
    refine if_i rfl ?_
    exact ih2 ⟨n, hs, na, ns, wo, rfl, rfl, rfl, rfl, rfl, rfl, rfl, rfl, hX, hwo, hmw, hS1, hL1, hN⟩
  refine ite_i (fun hk => ?_) (fun hk => ?_)
  · obtain ⟨r, _, _, _, _, _, _, na2, _, _, _, _, _, _, E1, E2, hS2⟩ := cmd_bear hS hT th x1 x2
    refine kg_i hk1 ?_
    refine kg_i hk2 ?_
    refine kb_i E1 ?_
    refine kg_i hk1 ?_
    refine kg_i hk2 ?_
    refine kb_i E2 ?_
    refine if_i rfl ?_
    exact ih2 ⟨n, hs, na2, ns, wo, rfl, rfl, rfl, rfl, rfl, rfl, rfl, rfl, hX, hwo, hmw, hS2, hL1, hN⟩
  refine ite_i (fun hk => ?_) (fun hk => ?_)
  · obtain ⟨r, _, na2, _, _, _, _, _, _, E1, E2, hS2⟩ := cmd_die hS hT th x1
    refine kg_i hk1 ?_
    refine kb_i E1 ?_
    refine kg_i hk1 ?_
    refine kb_i E2 ?_
    refine if_i rfl ?_
    exact ih2 ⟨n, hs, na2, ns, wo, rfl, rfl, rfl, rfl, rfl, rfl, rfl, rfl, hX, hwo, hmw, hS2, hL1, hN⟩
  refine ite_i (fun hk => ?_) (fun hk => ?_)
  · obtain ⟨r, _, na2, _, _, _, _, _, _, E1, E2, hS2⟩ := cmd_move hS hT th x1 x2
    refine kg_i hk1 ?_
    refine kg_i hk2 ?_
    refine kb_i E1 ?_
    refine kg_i hk1 ?_
    refine kg_i hk2 ?_
    refine kb_i E2 ?_
    refine if_i rfl ?_
    exact ih2 ⟨n, hs, na2, ns, wo, rfl, rfl, rfl, rfl, rfl, rfl, rfl, rfl, hX, hwo, hmw, hS2, hL1, hN⟩
  refine ite_i (fun hk => ?_) (fun hk => ?_)
  · obtain ⟨r, _, na2, _, _, _, _, _, _, E1, E2, hS2⟩ := cmd_roll hS hT th x1
    refine kg_i hk1 ?_
    refine kb_i E1 ?_
    refine kg_i hk1 ?_
    refine kb_i E2 ?_
    refine if_i rfl ?_
    exact ih2 ⟨n, hs, na2, ns, wo, rfl, rfl, rfl, rfl, rfl, rfl, rfl, rfl, hX, hwo, hmw, hS2, hL1, hN⟩
  refine ite_i (fun hk => ?_) (fun hk => ?_)
  · obtain ⟨r, _, _, na2, _, _, _, _, _, _, E1, E2, hS2⟩ := cmd_inherit hS hwo hmw hT th x1
    refine kg_i hk1 ?_
    refine kb_i E1 ?_
    refine kg_i hk1 ?_
    refine kb_i E2 ?_
    refine if_i rfl ?_
    exact ih2 ⟨n, hs, na2, ns, wo, rfl, rfl, rfl, rfl, rfl, rfl, rfl, rfl, hX, hwo, hmw, hS2, hL1, hN⟩
  refine ite_i (fun hk => ?_) (fun hk => ?_)
  · obtain ⟨r, _, na2, _, _, _, _, _, _, E1, E2, hS2⟩ := cmd_year hS hT th
    refine kb_i E1 ?_
    refine kb_i E2 ?_
    refine if_i rfl ?_
    exact ih2 ⟨n, hs, na2, ns, wo, rfl, rfl, rfl, rfl, rfl, rfl, rfl, rfl, hX, hwo, hmw, hS2, hL1, hN⟩
  refine ite_i (fun hk => ?_) (fun hk => ?_)
  · obtain ⟨r, na2, _, _, _, _, _, _, _, _, _, E1, E2, hS2⟩ := cmd_undo2 hS th
    refine kb_i E1 ?_
    refine kb_i E2 ?_
    refine if_i rfl ?_
    exact ih2 ⟨n, hs, na2, ns, wo, rfl, rfl, rfl, rfl, rfl, rfl, rfl, rfl, hX, hwo, hmw, hS2.mono (Nat.le_succ i) (by omega), hL1, hN⟩
  refine ite_i (fun hk => ?_) (fun hk => ?_)
  · obtain ⟨r, th2, E1, E2⟩ := cmd_gets2 hS hwo hmw th x1
    refine kg_i hk1 ?_
    refine kb_i E1 ?_
    refine kg_i hk1 ?_
    refine kb_i E2 ?_
    refine if_i rfl ?_
    exact ih2 ⟨n, hs, na, ns, wo, rfl, rfl, rfl, rfl, rfl, rfl, rfl, rfl, hX, hwo, hmw, hS1, hL1, hN⟩
  refine ite_i (fun hk => ?_) (fun hk => ?_)
  · obtain ⟨r, th2, E1, E2⟩ := cmd_way hS th x1 x2
    refine kg_i hk1 ?_
    refine kg_i hk2 ?_
    refine kb_i E1 ?_
    refine kg_i hk1 ?_
    refine kg_i hk2 ?_
    refine kb_i E2 ?_
    refine if_i rfl ?_
    exact ih2 ⟨n, hs, na, ns, wo, rfl, rfl, rfl, rfl, rfl, rfl, rfl, rfl, hX, hwo, hmw, hS1, hL1, hN⟩
  refine ite_i (fun hk => ?_) (fun hk => ?_)
  · have hS0 := hS
    obtain ⟨A, hV, hTR, hP, -⟩ := hS0
    obtain ⟨u, v, E1, E2, hu⟩ := cmd_rollFor hV hwo hTR hP hmw d1 d2 d3 d4 d5 d6 e1 e2 e3 e4 e5 th ro1 ro2 tr x1 x2
    refine kg_i hk1 ?_
    refine kg_i hk2 ?_
    refine kb_i E1 ?_
    refine kg_i hk1 ?_
    refine kg_i hk2 ?_
    refine kb_i E2 ?_
    refine if_i hu ?_
    exact ih2 ⟨n, hs, na, ns, wo, rfl, rfl, rfl, rfl, rfl, rfl, rfl, rfl, hX, hwo, hmw, hS1, hL1, hN⟩
  refine ite_i (fun hk => ?_) (fun hk => ?_)
  · have hS0 := hS
    obtain ⟨A, hV, hTR, hP, -⟩ := hS0
    obtain ⟨u, v, E1, E2, hu⟩ := cmd_mend hV hwo hTR hP hmw d1 d2 d3 d4 d5 d6 e1 e2 e3 e4 e5 th tr x1
    refine kg_i hk1 ?_
    refine kb_i E1 ?_
    refine kg_i hk1 ?_
    refine kb_i E2 ?_
    refine if_i hu ?_
    exact ih2 ⟨n, hs, na, ns, wo, rfl, rfl, rfl, rfl, rfl, rfl, rfl, rfl, hX, hwo, hmw, hS1, hL1, hN⟩
  refine ite_i (fun hk => ?_) (fun hk => ?_)
  · have hS0 := hS
    obtain ⟨A, hV, hTR, hP, -⟩ := hS0
    obtain ⟨u, v, E1, E2, hu⟩ := cmd_judge hV (by omega) hwo hTR hP hmw d1 d2 d3 d4 d5 d6 e1 e2 e3 e4 e5 th tr x1 x2
    refine kg_i hk1 ?_
    refine kg_i hk2 ?_
    refine kb_i E1 ?_
    refine kg_i hk1 ?_
    refine kg_i hk2 ?_
    refine kb_i E2 ?_
    refine if_i hu ?_
    exact ih2 ⟨n, hs, na, ns, wo, rfl, rfl, rfl, rfl, rfl, rfl, rfl, rfl, hX, hwo, hmw, hS1, hL1, hN⟩
  refine ite_i (fun hk => ?_) (fun hk => ?_)
  · refine kg_i hk1 ?_
    refine kg_i hk2 ?_
    by_cases hb : x2 = 0
    · obtain ⟨r, th2, vl2, E1, E2⟩ := cmd_share hS th x1 (0 : Int32) vl
      refine if_i hb ?_
      refine kb_i E1 ?_
      refine kg_i hk1 ?_
      refine kg_i hk2 ?_
      refine if_i hb ?_
      refine kb_i E2 ?_
      refine if_i rfl ?_
      exact ih2 ⟨n, hs, na, ns, wo, rfl, rfl, rfl, rfl, rfl, rfl, rfl, rfl, hX, hwo, hmw, hS1, hL1, hN⟩
    · obtain ⟨r, th2, vl2, E1, E2⟩ := cmd_share hS th x1 (1 : Int32) vl
      refine el_i hb ?_
      refine kb_i E1 ?_
      refine kg_i hk1 ?_
      refine kg_i hk2 ?_
      refine el_i hb ?_
      refine kb_i E2 ?_
      refine if_i rfl ?_
      exact ih2 ⟨n, hs, na, ns, wo, rfl, rfl, rfl, rfl, rfl, rfl, rfl, rfl, hX, hwo, hmw, hS1, hL1, hN⟩
  refine ite_i (fun hk => ?_) (fun hk => ?_)
  · obtain ⟨r, th2, ns2, _, _, _, _, _, _, E1, E2, hN2⟩ := cmd_see hS hN th x1 x2 x3
    refine kg_i hk1 ?_
    refine kg_i hk2 ?_
    refine kg_i hk3 ?_
    refine kb_i E1 ?_
    refine kg_i hk1 ?_
    refine kg_i hk2 ?_
    refine kg_i hk3 ?_
    refine kb_i E2 ?_
    refine if_i rfl ?_
    exact ih2 ⟨n, hs, na, ns2, wo, rfl, rfl, rfl, rfl, rfl, rfl, rfl, rfl, hX, hwo, hmw, hS1, hL1, hN2⟩
  refine ite_i (fun hk => ?_) (fun hk => ?_)
  · obtain ⟨th2, E1, E2, hN2⟩ := cmd_unsee (n := ns) sh sc sl mh mc ml th
    refine kb_i E1 ?_
    refine kb_i E2 ?_
    refine if_i rfl ?_
    exact ih2 ⟨n, hs, na, 0, wo, rfl, rfl, rfl, rfl, rfl, rfl, rfl, rfl, hX, hwo, hmw, hS1, hL1, hN2⟩
  refine ite_i (fun hk => ?_) (fun hk => ?_)
  · obtain ⟨r, th2, _, _, _, _, _, E1, E2⟩ := cmd_sides hS hN th s1 s2 s3 s4 s5 x1
    refine kg_i hk1 ?_
    refine kb_i E1 ?_
    refine kg_i hk1 ?_
    refine kb_i E2 ?_
    refine if_i rfl ?_
    exact ih2 ⟨n, hs, na, ns, wo, rfl, rfl, rfl, rfl, rfl, rfl, rfl, rfl, hX, hwo, hmw, hS1, hL1, hN⟩
  refine ite_i (fun hk => ?_) (fun hk => ?_)
  · obtain ⟨r, th2, _, _, _, E1, E2⟩ := cmd_rests hS hwo hmw th rm rf gn x1 x2 x3
    refine kg_i hk1 ?_
    refine kg_i hk2 ?_
    refine kg_i hk3 ?_
    refine kb_i E1 ?_
    refine kg_i hk1 ?_
    refine kg_i hk2 ?_
    refine kg_i hk3 ?_
    refine kb_i E2 ?_
    refine if_i rfl ?_
    exact ih2 ⟨n, hs, na, ns, wo, rfl, rfl, rfl, rfl, rfl, rfl, rfl, rfl, hX, hwo, hmw, hS1, hL1, hN⟩
  refine ite_i (fun hk => ?_) (fun hk => ?_)
  · refine kg_i hk1 ?_
    refine kg_i hk2 ?_
    refine kg_i hk3 ?_
    by_cases hb : x3 = 0
    · obtain ⟨r, th2, E1, E2⟩ := cmd_odds hS th x1 x2 (0 : Int32)
      refine if_i hb ?_
      refine kb_i E1 ?_
      refine kg_i hk1 ?_
      refine kg_i hk2 ?_
      refine kg_i hk3 ?_
      refine if_i hb ?_
      refine kb_i E2 ?_
      refine if_i rfl ?_
      exact ih2 ⟨n, hs, na, ns, wo, rfl, rfl, rfl, rfl, rfl, rfl, rfl, rfl, hX, hwo, hmw, hS1, hL1, hN⟩
    · obtain ⟨r, th2, E1, E2⟩ := cmd_odds hS th x1 x2 (1 : Int32)
      refine el_i hb ?_
      refine kb_i E1 ?_
      refine kg_i hk1 ?_
      refine kg_i hk2 ?_
      refine kg_i hk3 ?_
      refine el_i hb ?_
      refine kb_i E2 ?_
      refine if_i rfl ?_
      exact ih2 ⟨n, hs, na, ns, wo, rfl, rfl, rfl, rfl, rfl, rfl, rfl, rfl, hX, hwo, hmw, hS1, hL1, hN⟩
  refine ite_i (fun hk => ?_) (fun hk => ?_)
  · generalize (((x1.toInt64 <<< (((32 : Int32)).toInt64 &&& 63)) ||| (x2.toInt64 &&& (4294967295 : Int64)))) = lv
    obtain ⟨th2, E1, E2, hc⟩ := cmd_seed sd lv th
    refine kg_i hk1 ?_
    refine kg_i hk2 ?_
    refine kb_i E1 ?_
    refine kg_i hk1 ?_
    refine kg_i hk2 ?_
    refine kb_i E2 ?_
    refine if_i hc ?_
    exact ih2 ⟨n, hs, na, ns, wo, rfl, rfl, rfl, rfl, rfl, rfl, rfl, rfl, hX, hwo, hmw, hS1, hL1, hN⟩
  refine ite_i (fun hk => ?_) (fun hk => ?_)
  · have hS0 := hS
    obtain ⟨A, hV, hTR, hP, -⟩ := hS0
    obtain ⟨u, v, E1, E2, hu, hu2⟩ := cmd_towns hV (by omega) hTR hP d1 d2 d3 d4 d5 d6 e1 e2 e3 e4 e5 th tr sd x1
    refine kg_i hk1 ?_
    refine kb_i E1 ?_
    refine kg_i hk1 ?_
    refine kb_i E2 ?_
    refine if_i hu ?_
    exact ih2 ⟨n, hs, na, ns, wo, rfl, rfl, rfl, rfl, rfl, rfl, rfl, hu2, hX, hwo, hmw, hS1, hL1, hN⟩
  refine ite_i (fun hk => ?_) (fun hk => ?_)
  · obtain ⟨r, _, _, _, _, _, _, _, _, _, _, _, _, _, _, _, _, _, _, _, _, _, _, _, _, _, _, E1, E2, hL2⟩ := cmd_keep hS hLL th x1
    refine kg_i hk1 ?_
    refine kb_i E1 ?_
    refine kg_i hk1 ?_
    refine kb_i E2 ?_
    refine if_i rfl ?_
    exact ih2 ⟨n, hs, na, ns, wo, rfl, rfl, rfl, rfl, rfl, rfl, rfl, rfl, hX, hwo, hmw, hS1, hL2.mono (Nat.le_succ i) (by omega), hN⟩
  refine ite_i (fun hk => ?_) (fun hk => ?_)
  · obtain ⟨r, _, na2, _, _, _, _, _, _, _, _, _, _, _, _, E1, E2, hS2⟩ := cmd_again hS hLL th x1
    refine kg_i hk1 ?_
    refine kb_i E1 ?_
    refine kg_i hk1 ?_
    refine kb_i E2 ?_
    refine if_i rfl ?_
    exact ih2 ⟨n, hs, na2, ns, wo, rfl, rfl, rfl, rfl, rfl, rfl, rfl, rfl, hX, hwo, hmw, hS2.mono (Nat.le_succ i) (by omega), hL1, hN⟩
  exact ih2 ⟨n, hs, na, ns, wo, rfl, rfl, rfl, rfl, rfl, rfl, rfl, rfl, hX, hwo, hmw, hS1, hL1, hN⟩
theorem law_end {L i : Nat} (h : L < 4 * i + 4) (hi : i ≤ 512) : ((Int32.ofNat L) - (4 : Int32)) < nI (4 * i) := by
  show nI L - nI 4 < nI (4 * i)
  rw [Int32.lt_iff_toInt_lt, pk_sub_toInt (by omega) (by omega), nI_toInt (by omega)]
  omega
theorem law_l {L : Nat} {xs : Nat → Int32} (hL : L ≤ 2048) : ∀ (m i fuel : Nat), L < 4 * (i + m) + 4 → m < fuel → i ≤ 512 → ∀ (ks : Int32) (sd : Int64) (tl : Int32) (tb : Nat → Int32) (ho : Int32) (ch : Int32) (li : Int32) (si : Int32) (ih : Int32) (ye : Int32) (wr : Nat → Int32) (bi : Nat → Int32) (hm : Nat → Int32) (ki : Nat → Int32) (we : Nat → Int32) (d1 : Int32) (d2 : Int32) (d3 : Int32) (d4 : Int32) (d5 : Int32) (d6 : Int32) (e1 : Nat → Int32) (e2 : Nat → Int32) (e3 : Nat → Int32) (e4 : Nat → Int32) (e5 : Nat → Int32) (a1 : Int32) (a2 : Int32) (a3 : Int32) (a4 : Int32) (a5 : Int32) (a6 : Int32) (p1 : Nat → Int32) (p2 : Nat → Int32) (p3 : Nat → Int32) (p4 : Nat → Int32) (p5 : Nat → Int32) (b1 : Int32) (b2 : Int32) (b3 : Int32) (b4 : Int32) (b5 : Int32) (b6 : Int32) (r1 : Nat → Int32) (r2 : Nat → Int32) (r3 : Nat → Int32) (r4 : Nat → Int32) (r5 : Nat → Int32) (ac : Int32) (wt : Nat → Int32) (wh : Nat → Int32) (bf : Nat → Int32) (sn : Int32) (sh : Nat → Int32) (sc : Nat → Int32) (sl : Nat → Int32) (th : Int32) (ts : Int32) (pl : Int32) (mho : Int32) (rH : Int32) (rC : Int32) (mac : Int32) (msn : Int32) (msd : Int64) (ro1 : Int32) (ro2 : Int32) (s1 : Int32) (s2 : Int32) (s3 : Int32) (s4 : Int32) (s5 : Int32) (rm : Int32) (rf : Int32) (mt : Nat → Int32) (mw : Nat → Int32) (rh : Nat → Int32) (rc : Nat → Int32) (P : Nat → Int32) (tr : Nat → Int32) (bk : Nat → Int32) (kept : Nat → Int32) (isK : Nat → Int32) (mh : Nat → Int32) (mc : Nat → Int32) (ml : Nat → Int32) (gn : Nat → Int32) (vl : Nat → Int32) (x : Int32), x = nI (4 * i) → RR i ks sd tl tb ho ch li si ih ye wr bi hm ki we a1 a2 a3 a4 a5 a6 p1 p2 p3 p4 p5 b1 b2 b3 b4 b5 b6 r1 r2 r3 r4 r5 ac wt wh bf sn sh sc sl ts mho mac msn msd mt mw P bk kept isK mh mc ml → f_L_law_18 L xs fuel ks sd tl tb ho ch li si ih ye wr bi hm ki we d1 d2 d3 d4 d5 d6 e1 e2 e3 e4 e5 a1 a2 a3 a4 a5 a6 p1 p2 p3 p4 p5 b1 b2 b3 b4 b5 b6 r1 r2 r3 r4 r5 ac wt wh bf sn sh sc sl th ts pl mho rH rC mac msn msd ro1 ro2 s1 s2 s3 s4 s5 rm rf mt mw rh rc P tr bk kept isK mh mc ml gn vl x = some 1 := by
  intro m
  induction m with
  | zero =>
    intro i fuel h1 h2 h3 ks sd tl tb ho ch li si ih ye wr bi hm ki we d1 d2 d3 d4 d5 d6 e1 e2 e3 e4 e5 a1 a2 a3 a4 a5 a6 p1 p2 p3 p4 p5 b1 b2 b3 b4 b5 b6 r1 r2 r3 r4 r5 ac wt wh bf sn sh sc sl th ts pl mho rH rC mac msn msd ro1 ro2 s1 s2 s3 s4 s5 rm rf mt mw rh rc P tr bk kept isK mh mc ml gn vl x hx hR
    obtain ⟨d, rfl⟩ : ∃ d, fuel = d + 1 := ⟨fuel - 1, by omega⟩
    subst hx
    show f_L_law_18_b L xs (f_L_law_18 L xs d) ks sd tl tb ho ch li si ih ye wr bi hm ki we d1 d2 d3 d4 d5 d6 e1 e2 e3 e4 e5 a1 a2 a3 a4 a5 a6 p1 p2 p3 p4 p5 b1 b2 b3 b4 b5 b6 r1 r2 r3 r4 r5 ac wt wh bf sn sh sc sl th ts pl mho rH rC mac msn msd ro1 ro2 s1 s2 s3 s4 s5 rm rf mt mw rh rc P tr bk kept isK mh mc ml gn vl (nI (4 * i)) = some 1
    unfold f_L_law_18_b
    exact if_i (law_end (by omega) (by omega)) rfl
  | succ m IH =>
    intro i fuel h1 h2 h3 ks sd tl tb ho ch li si ih ye wr bi hm ki we d1 d2 d3 d4 d5 d6 e1 e2 e3 e4 e5 a1 a2 a3 a4 a5 a6 p1 p2 p3 p4 p5 b1 b2 b3 b4 b5 b6 r1 r2 r3 r4 r5 ac wt wh bf sn sh sc sl th ts pl mho rH rC mac msn msd ro1 ro2 s1 s2 s3 s4 s5 rm rf mt mw rh rc P tr bk kept isK mh mc ml gn vl x hx hR
    obtain ⟨d, rfl⟩ : ∃ d, fuel = d + 1 := ⟨fuel - 1, by omega⟩
    subst hx
    show f_L_law_18_b L xs (f_L_law_18 L xs d) ks sd tl tb ho ch li si ih ye wr bi hm ki we d1 d2 d3 d4 d5 d6 e1 e2 e3 e4 e5 a1 a2 a3 a4 a5 a6 p1 p2 p3 p4 p5 b1 b2 b3 b4 b5 b6 r1 r2 r3 r4 r5 ac wt wh bf sn sh sc sl th ts pl mho rH rC mac msn msd ro1 ro2 s1 s2 s3 s4 s5 rm rf mt mw rh rc P tr bk kept isK mh mc ml gn vl (nI (4 * i)) = some 1
    by_cases he : L < 4 * i + 4
    · unfold f_L_law_18_b
      exact if_i (law_end (by omega) (by omega)) rfl
    · exact law_step hL (by omega) (fun ks sd tl tb ho ch li si ih ye wr bi hm ki we d1 d2 d3 d4 d5 d6 e1 e2 e3 e4 e5 a1 a2 a3 a4 a5 a6 p1 p2 p3 p4 p5 b1 b2 b3 b4 b5 b6 r1 r2 r3 r4 r5 ac wt wh bf sn sh sc sl th ts pl mho rH rC mac msn msd ro1 ro2 s1 s2 s3 s4 s5 rm rf mt mw rh rc P tr bk kept isK mh mc ml gn vl hR => IH (i + 1) d (by omega) (by omega) (by omega) ks sd tl tb ho ch li si ih ye wr bi hm ki we d1 d2 d3 d4 d5 d6 e1 e2 e3 e4 e5 a1 a2 a3 a4 a5 a6 p1 p2 p3 p4 p5 b1 b2 b3 b4 b5 b6 r1 r2 r3 r4 r5 ac wt wh bf sn sh sc sl th ts pl mho rH rC mac msn msd ro1 ro2 s1 s2 s3 s4 s5 rm rf mt mw rh rc P tr bk kept isK mh mc ml gn vl _ rfl hR) hR
theorem law_ok (L : Nat) (xs : Nat → Int32) (hL : L ≤ 2048) : f_L_law_18 L xs 1000 0 0 0 (fun _ => 0) 0 0 0 0 0 0 (fun _ => 0) (fun _ => 0) (fun _ => 0) (fun _ => 0) (fun _ => 0) 0 0 0 0 0 0 (fun _ => 0) (fun _ => 0) (fun _ => 0) (fun _ => 0) (fun _ => 0) 0 0 0 0 0 0 (fun _ => 0) (fun _ => 0) (fun _ => 0) (fun _ => 0) (fun _ => 0) 0 0 0 0 0 0 (fun _ => 0) (fun _ => 0) (fun _ => 0) (fun _ => 0) (fun _ => 0) 0 (fun _ => 0) (fun _ => 0) (fun _ => 0) 0 (fun _ => 0) (fun _ => 0) (fun _ => 0) 0 0 0 0 0 0 0 0 0 0 0 0 0 0 0 0 0 0 (fun _ => 0) (fun _ => 0) (fun _ => 0) (fun _ => 0) (fun _ => 0) (fun _ => 0) (fun _ => 0) (fun _ => 0) (fun _ => 0) (fun _ => 0) (fun _ => 0) (fun _ => 0) (fun _ => 0) (fun _ => 0) 0 = some 1 := by
  refine law_l hL 512 0 1000 (by omega) (by omega) (by omega) 0 0 0 (fun _ => 0) 0 0 0 0 0 0 (fun _ => 0) (fun _ => 0) (fun _ => 0) (fun _ => 0) (fun _ => 0) 0 0 0 0 0 0 (fun _ => 0) (fun _ => 0) (fun _ => 0) (fun _ => 0) (fun _ => 0) 0 0 0 0 0 0 (fun _ => 0) (fun _ => 0) (fun _ => 0) (fun _ => 0) (fun _ => 0) 0 0 0 0 0 0 (fun _ => 0) (fun _ => 0) (fun _ => 0) (fun _ => 0) (fun _ => 0) 0 (fun _ => 0) (fun _ => 0) (fun _ => 0) 0 (fun _ => 0) (fun _ => 0) (fun _ => 0) 0 0 0 0 0 0 0 0 0 0 0 0 0 0 0 0 0 0 (fun _ => 0) (fun _ => 0) (fun _ => 0) (fun _ => 0) (fun _ => 0) (fun _ => 0) (fun _ => 0) (fun _ => 0) (fun _ => 0) (fun _ => 0) (fun _ => 0) (fun _ => 0) (fun _ => 0) (fun _ => 0) 0 rfl ?_
  refine ⟨0, 0, 0, 0, fun _ => 0, rfl, rfl, rfl, rfl, rfl, rfl, rfl, rfl, ⟨by omega, fun i hi => by omega⟩, fun i hi => by omega, fun i hi => by omega, ⟨fun _ => 0, ⟨by omega, by omega, by decide, by decide, by decide, by decide, by decide, fun c hc => by dsimp only at hc; omega⟩, ⟨rfl, rfl, rfl, rfl, rfl, rfl, fun i hi => by omega, fun c hc => by dsimp only at hc; omega, fun c hc => by dsimp only at hc; omega⟩, fun k _ => rfl, AC_0 _ _ _ _ _ _ _ _⟩, SL_0 _ _ _ _ _ _ _ _ _ _ _ _ _ _ _ _ _ _ _ _ _ _ _ _ _ _ rfl rfl, ⟨fun _ => 0, fun _ => 0, fun _ => 0, by omega, fun i hi => by omega⟩⟩
