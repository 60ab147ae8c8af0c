/-! the nest words, which no good list holds: carried as they are -/
def kNw : List Cond := [Cond.fieldLinkNest RX5 46 RX3 "length" "I" RX5, Cond.fieldLinkNest RX2 34 RX4 "houses" "I" RX5, Cond.fieldLinkNest RX3 58 RX4 "houses" "I" RX5, Cond.fieldLinkNest RX5 68 RX4 "houses" "I" RX5, Cond.fieldLinkNest RX3 61 RX4 "children" "I" RX5, Cond.fieldLinkNest RX5 71 RX4 "children" "I" RX5, Cond.fieldLinkNest RX2 69 RX4 "children" "I" RX5, Cond.fieldLinkNest RX5 74 RX4 "living" "I" RX5, Cond.fieldLinkNest RX5 77 RX4 "sideBits" "I" RX5, Cond.fieldLinkNest RX5 80 RX4 "inherited" "I" RX5, Cond.fieldLinkNest RX0 58 RX4 "theYear" "I" RX5, Cond.fieldLinkNest RX5 83 RX4 "theYear" "I" RX5, Cond.fieldLinkNest RX0 49 RX4 "home" "LYoungestHouse$Row;" RX5, Cond.fieldLinkNest RX5 94 RX4 "home" "LYoungestHouse$Row;" RX5, Cond.fieldLinkNest RX5 103 RX4 "kind" "LYoungestHouse$Row;" RX5, Cond.fieldLinkNest RX5 106 RX4 "wealth" "LYoungestHouse$Row;" RX5, Cond.fieldLinkNest RX5 62 RX0 "count" "I" RX5, Cond.fieldLinkNest RX5 86 RX2 "count" "I" RX5, Cond.methodLinkNest RX4 67 yX5_bit RX5, Cond.methodLinkNest RX4 59 yX5_isIn RX5, Cond.methodLinkNest RX2 39 yX5_bit RX5, Cond.methodLinkNest RX2 54 yX5_isIn RX5, Cond.methodLinkNest RX4 127 yX5_power RX5]
def kisN : Cond → Bool
  | .fieldLinkNest _ _ _ _ _ _ => true
  | .methodLinkNest _ _ _ _ => true
  | _ => false
theorem kNw_all : kNw.all kisN = true := by rfl
def kN (U : State) : Prop := ∀ w ∈ kNw, va_Nw w U
theorem kN_warm {s U : State} (hW : s.WarmedH U.vm) (h : kN s) : kN U := by
  intro w hw
  have hb := List.all_eq_true.mp kNw_all w hw
  have h1 := h w hw
  unfold kisN at hb
  split at hb
  · exact va_Nw.warmF hW h1
  · exact va_Nw.warmM hW h1
  · cases hb
theorem kN_same {u U : State} (hv : u.vm = U.vm) (h : kN u) : kN U := by
  intro w hw
  have hb := List.all_eq_true.mp kNw_all w hw
  have h1 := h w hw
  unfold kisN at hb
  split at hb
  · exact va_Nw.same rfl hv h1
  · exact va_Nw.same rfl hv h1
  · cases hb
/-- a method's start: the world's cells, the tables, the nest words -/
def kPre (D : va_G) (tys : List (ClassId × FieldType)) (sz : Nat) (ws : va_W) (U : State) : Prop := U.heap.size = sz ∧ va_P D vwCl ws U.heap ∧ va_K D vwCl tys U ∧ kN U ∧ va_D (fun _ => True) ws
theorem kPre_blind {D : va_G} {tys : List (ClassId × FieldType)} {sz : Nat} {ws : va_W} {av : List Value} : FrameBlind (va_Pc av (kPre D tys sz ws)) := fun a U g mk q => by
  obtain ⟨q0, q1, qP, qK, qN, qD⟩ := q
  exact ⟨q0, q1, qP, va_K.moved (u := U) (U := U.calling g mk a) (Vm.Alike.refl U.vm) qK, kN_same (u := U) (U := U.calling g mk a) rfl qN, qD⟩
/-- contracts: from the world ws, with the answer r, to the world wt; no cell is made -/
def kMi (l : Launch) (y : MethodName) (w : List Cond) (rm : Room) (D : va_G) (tys : List (ClassId × FieldType)) (av : List Value) (ws wt : va_W) (r : Int32) : Prop :=
  ∀ sz : Nat, Met l y w rm (va_Pc av (kPre D tys sz ws)) (va_Qi (fun (r2 : Int32) (_ : Unit) => r2 = r) (fun _ t => va_P D vwCl wt t.heap) (va_A ws sz)) 0 0 (va_A ws sz)
def kMl (l : Launch) (y : MethodName) (w : List Cond) (rm : Room) (D : va_G) (tys : List (ClassId × FieldType)) (av : List Value) (ws wt : va_W) (r : Int64) : Prop :=
  ∀ sz : Nat, Met l y w rm (va_Pc av (kPre D tys sz ws)) (va_Ql (fun (r2 : Int64) (_ : Unit) => r2 = r) (fun _ t => va_P D vwCl wt t.heap) (va_A ws sz)) 0 0 (va_A ws sz)
def kMv (l : Launch) (y : MethodName) (w : List Cond) (rm : Room) (D : va_G) (tys : List (ClassId × FieldType)) (av : List Value) (ws wt : va_W) : Prop :=
  ∀ sz : Nat, Met l y w rm (va_Pc av (kPre D tys sz ws)) (va_Qv (fun (_ : Unit) => True) (fun _ t => va_P D vwCl wt t.heap) (va_A ws sz)) 0 0 (va_A ws sz)
def kMr (l : Launch) (y : MethodName) (w : List Cond) (rm : Room) (D : va_G) (tys : List (ClassId × FieldType)) (av : List Value) (ws wt : va_W) (r : Nat) : Prop :=
  ∀ sz : Nat, Met l y w rm (va_Pc av (kPre D tys sz ws)) (va_Qr (fun (_ : Unit) => True) (fun _ ra t => ra = r ∧ va_P D vwCl wt t.heap) (va_A ws sz)) 0 0 (va_A ws sz)
/-- what a method's name and words say of its code -/
def kSig (y : MethodName) (w : List Cond) (bytes : ByteArray) (maxL : Nat) (ret : Option FieldType) (own : String) (n : Nat) : Prop :=
  (∃ w0, w = Cond.code y bytes maxL ret :: w0) ∧ y.cls = own ∧ plainName y.cls = true ∧ (y.cls ≠ "java/lang/invoke/MethodHandle" ∧ y.cls ≠ "java/lang/invoke/VarHandle" ∧ (parseMethodDescriptor y.desc).map (fun d => d.parameters.length) = some n)
/-- behind a call: the callee's places hold its new cells, the rest stays -/
theorem kput_ok {A : Nat → Prop} {D : va_G} {cl : List vw_C} {ws wc wr wt wn : va_W} {H H1 : Heap} (hP : va_P D cl ws H) (hD : va_D A ws) (is isR : List Nat) (n : Nat) (hC : is.map (fun i => ws[i]?) = wc.map some) (had : wt.map (fun q => q.1) = wc.map (fun q => q.1))
    (hT : is.map (fun i => wn[i]?) = wt.map some) (hR : isR.map (fun i => ws[i]?) = wr.map some) (hR2 : isR.map (fun i => wn[i]?) = wr.map some) (hcov : (List.range n).all (fun k => is.contains k || isR.contains k) = true) (hdis : isR.all (fun k => !is.contains k) = true) (hlen : wn.length = n)
    (hk : ∀ q : Nat, q < H.size → ¬ va_A wc H.size q → H1[q]? = H[q]?) (hP1 : va_P D cl wt H1) : va_P D cl wn H1 ∧ va_D A wn := by
  have get : ∀ {is : List Nat} {w v : va_W}, is.map (fun i => w[i]?) = v.map some → ∀ (j k : Nat), is[j]? = some k → ∃ q, v[j]? = some q ∧ w[k]? = some q := by
    intro is w v h j k hj
    have h1 : (is.map (fun i => w[i]?))[j]? = some (w[k]?) := by rw [List.getElem?_map, hj]; rfl
    rw [h, List.getElem?_map] at h1
    cases hv : v[j]? with
    | none => rw [hv] at h1; cases h1
    | some q => rw [hv] at h1; exact ⟨q, rfl, (Option.some.inj h1).symm⟩
  have adr : ∀ (j : Nat) (q : Nat × va_E), wt[j]? = some q → ∃ q0, wc[j]? = some q0 ∧ q0.1 = q.1 := by
    intro j q h
    have h1 : (wt.map (fun q => q.1))[j]? = some q.1 := by rw [List.getElem?_map, h]; rfl
    rw [had, List.getElem?_map] at h1
    cases hq : wc[j]? with
    | none => rw [hq] at h1; cases h1
    | some q0 => rw [hq] at h1; exact ⟨q0, rfl, Option.some.inj h1⟩
  have at2 : ∀ (k : Nat) (q : Nat × va_E), wn[k]? = some q → (∃ j : Nat, is[j]? = some k ∧ wt[j]? = some q) ∨ (k ∈ isR ∧ ws[k]? = some q) := by
    intro k q h
    have hk : k < n := by rw [← hlen]; exact (List.getElem?_eq_some_iff.mp h).1
    have hc := List.all_eq_true.mp hcov k (List.mem_range.mpr hk)
    rcases Bool.or_eq_true_iff.mp hc with hc | hc
    · obtain ⟨j, hj⟩ := List.getElem?_of_mem (List.contains_iff_mem.mp hc)
      obtain ⟨q2, h1, h2⟩ := get hT j k hj
      rw [h] at h2
      cases h2
      exact Or.inl ⟨j, hj, h1⟩
    · have hm := List.contains_iff_mem.mp hc
      obtain ⟨j, hj⟩ := List.getElem?_of_mem hm
      obtain ⟨q2, h1, h2⟩ := get hR2 j k hj
      obtain ⟨q3, h3, h4⟩ := get hR j k hj
      rw [h] at h2
      cases h2
      rw [h1] at h3
      cases h3
      exact Or.inr ⟨hm, h4⟩
  have key : ∀ (k : Nat) (q : Nat × va_E), wn[k]? = some q → ∃ q0, ws[k]? = some q0 ∧ q0.1 = q.1 := by
    intro k q h
    rcases at2 k q h with ⟨j, h1, h2⟩ | ⟨-, h2⟩
    · obtain ⟨q0, h3, h4⟩ := adr j q h2
      obtain ⟨q5, h5, h6⟩ := get hC j k h1
      rw [h3] at h5
      cases h5
      exact ⟨q0, h6, h4⟩
    · exact ⟨q, h2, rfl⟩
  refine ⟨fun k q h => ?_, fun i j x y hi hj hxy => ?_, fun k q h => ?_⟩
  · rcases at2 k q h with ⟨j, h1, h2⟩ | ⟨h1, h2⟩
    · exact hP1 j q h2
    · refine (hP k q h2).kept (hk q.1 (hP k q h2).lt (fun z => ?_))
      rcases z with ⟨j, e, z⟩ | z
      · have hj : j < wc.length := (List.getElem?_eq_some_iff.mp z).1
        have hl1 : is.length = wc.length := by have := congrArg List.length hC; simpa using this
        have hij : is[j]? = some is[j] := List.getElem?_eq_getElem (by omega)
        obtain ⟨q5, h5, h6⟩ := get hC j _ hij
        rw [z] at h5
        cases h5
        have h7 := hD.1 k _ q (q.1, e) h2 h6 rfl
        have h8 := List.all_eq_true.mp hdis k h1
        have h9 : is.contains k = true := by rw [h7]; exact List.contains_iff_mem.mpr (List.mem_of_getElem? hij)
        rw [h9] at h8
        cases h8
      · have := (hP k q h2).lt
        omega
  · obtain ⟨x0, h1, h2⟩ := key i x hi
    obtain ⟨y0, h3, h4⟩ := key j y hj
    exact hD.1 i j x0 y0 h1 h3 (h2.trans (hxy.trans h4.symm))
  · obtain ⟨q0, h1, h2⟩ := key k q h
    rw [← h2]
    exact hD.2 k q0 h1
theorem va_D_part {A : Nat → Prop} {ws wc : va_W} (hD : va_D A ws) (is : List Nat) (hn : va_nd is = true) (hC : is.map (fun i => ws[i]?) = wc.map some) : va_D (fun _ => True) wc := (hD.sub is hn hC).weaken (fun _ _ _ _ => trivial)
theorem va_P_part {D : va_G} {cl : List vw_C} {ws wc : va_W} {H : Heap} (hP : va_P D cl ws H) (is : List Nat) (hC : is.map (fun i => ws[i]?) = wc.map some) : va_P D cl wc H := by
  intro k q h
  have h1 : (is.map (fun i => ws[i]?))[k]? = some (some q) := by rw [hC, List.getElem?_map, h]; rfl
  rw [List.getElem?_map] at h1
  cases hi : is[k]? with
  | none => rw [hi] at h1; cases h1
  | some i => rw [hi] at h1; exact hP i q (Option.some.inj h1)
section KC
variable {p : Program} {l : Launch} {e : Env} {R : Room} {s : State} {m : MethodId} {args : Array Value} {below : List Frame} {meth : Method} {c : Code} {H : Heap} {locs : List Loc} {cells slots : Nat} {Q : State → Prop}
variable {pc : Nat} {ls : Array Slot} {rest st0 : List Value} {a : Array Value} {A : Nat → Prop} {H0 : Heap}
variable {D : va_G} {tys : List (ClassId × FieldType)} {ws wc wr wt wn : va_W}
theorem kc_i {r : Int32} (hr : va_Run p l e R s m args below meth c H locs cells slots 0 0 (F0 m pc ls st0) rest (va_Qi (fun (r2 : Int32) (_ : Unit) => r2 = r) (fun _ t => va_P D vwCl wt t.heap) (va_A wc H.size) a) (va_A wc H.size))
    (hA : ∀ q, H0.size ≤ q → A q) (hP : va_P D vwCl ws H) (hD : va_D A ws) (hS : va_S A H0 H locs) (is isR : List Nat) (n : Nat) (hC : is.map (fun i => ws[i]?) = wc.map some) (had : wt.map (fun q => q.1) = wc.map (fun q => q.1)) (hT : is.map (fun i => wn[i]?) = wt.map some) (hR : isR.map (fun i => ws[i]?) = wr.map some) (hR2 : isR.map (fun i => wn[i]?) = wr.map some) (hcov : (List.range n).all (fun k => is.contains k || isR.contains k) = true) (hdis : isR.all (fun k => !is.contains k) = true) (hlen : wn.length = n)
    (kk : ∀ (H1 : Heap) (locs1 : List Loc), va_P D vwCl wn H1 → va_D A wn → va_S A H0 H1 locs1 → W p l e R s m args below meth c H1 locs1 cells slots Q (F0 m (pc + 3) ls (.int r :: rest))) : W p l e R s m args below meth c H locs cells slots Q (F0 m pc ls st0) := by
  have hF := va_free (wc := wc) hD hS hA is hC
  refine va_calli hr hS (fun q _ h => hF q h) hF (fun r2 u t H1 locs1 ht hvm hw hB hz1 hk1 hS1 => ?_)
  subst hw
  rw [ht] at hB
  obtain ⟨hP1, hD1⟩ := kput_ok hP hD is isR n hC had hT hR hR2 hcov hdis hlen hk1 hB
  exact kk H1 locs1 hP1 hD1 hS1
theorem kc_l {r : Int64} (hr : va_Run p l e R s m args below meth c H locs cells slots 0 0 (F0 m pc ls st0) rest (va_Ql (fun (r2 : Int64) (_ : Unit) => r2 = r) (fun _ t => va_P D vwCl wt t.heap) (va_A wc H.size) a) (va_A wc H.size))
    (hA : ∀ q, H0.size ≤ q → A q) (hP : va_P D vwCl ws H) (hD : va_D A ws) (hS : va_S A H0 H locs) (is isR : List Nat) (n : Nat) (hC : is.map (fun i => ws[i]?) = wc.map some) (had : wt.map (fun q => q.1) = wc.map (fun q => q.1)) (hT : is.map (fun i => wn[i]?) = wt.map some) (hR : isR.map (fun i => ws[i]?) = wr.map some) (hR2 : isR.map (fun i => wn[i]?) = wr.map some) (hcov : (List.range n).all (fun k => is.contains k || isR.contains k) = true) (hdis : isR.all (fun k => !is.contains k) = true) (hlen : wn.length = n)
    (kk : ∀ (H1 : Heap) (locs1 : List Loc), va_P D vwCl wn H1 → va_D A wn → va_S A H0 H1 locs1 → W p l e R s m args below meth c H1 locs1 cells slots Q (F0 m (pc + 3) ls (.long r :: rest))) : W p l e R s m args below meth c H locs cells slots Q (F0 m pc ls st0) := by
  have hF := va_free (wc := wc) hD hS hA is hC
  refine va_calll hr hS (fun q _ h => hF q h) hF (fun r2 u t H1 locs1 ht hvm hw hB hz1 hk1 hS1 => ?_)
  subst hw
  rw [ht] at hB
  obtain ⟨hP1, hD1⟩ := kput_ok hP hD is isR n hC had hT hR hR2 hcov hdis hlen hk1 hB
  exact kk H1 locs1 hP1 hD1 hS1
theorem kc_v (hr : va_Run p l e R s m args below meth c H locs cells slots 0 0 (F0 m pc ls st0) rest (va_Qv (fun (_ : Unit) => True) (fun _ t => va_P D vwCl wt t.heap) (va_A wc H.size) a) (va_A wc H.size))
    (hA : ∀ q, H0.size ≤ q → A q) (hP : va_P D vwCl ws H) (hD : va_D A ws) (hS : va_S A H0 H locs) (is isR : List Nat) (n : Nat) (hC : is.map (fun i => ws[i]?) = wc.map some) (had : wt.map (fun q => q.1) = wc.map (fun q => q.1)) (hT : is.map (fun i => wn[i]?) = wt.map some) (hR : isR.map (fun i => ws[i]?) = wr.map some) (hR2 : isR.map (fun i => wn[i]?) = wr.map some) (hcov : (List.range n).all (fun k => is.contains k || isR.contains k) = true) (hdis : isR.all (fun k => !is.contains k) = true) (hlen : wn.length = n)
    (kk : ∀ (H1 : Heap) (locs1 : List Loc), va_P D vwCl wn H1 → va_D A wn → va_S A H0 H1 locs1 → W p l e R s m args below meth c H1 locs1 cells slots Q (F0 m (pc + 3) ls rest)) : W p l e R s m args below meth c H locs cells slots Q (F0 m pc ls st0) := by
  have hF := va_free (wc := wc) hD hS hA is hC
  refine va_callv hr hS (fun q _ h => hF q h) hF (fun u t H1 locs1 ht hvm hw hB hz1 hk1 hS1 => ?_)
  rw [ht] at hB
  obtain ⟨hP1, hD1⟩ := kput_ok hP hD is isR n hC had hT hR hR2 hcov hdis hlen hk1 hB
  exact kk H1 locs1 hP1 hD1 hS1
theorem kc_r {r : Nat} (hr : va_Run p l e R s m args below meth c H locs cells slots 0 0 (F0 m pc ls st0) rest (va_Qr (fun (_ : Unit) => True) (fun _ ra t => ra = r ∧ va_P D vwCl wt t.heap) (va_A wc H.size) a) (va_A wc H.size))
    (hA : ∀ q, H0.size ≤ q → A q) (hP : va_P D vwCl ws H) (hD : va_D A ws) (hS : va_S A H0 H locs) (is isR : List Nat) (n : Nat) (hC : is.map (fun i => ws[i]?) = wc.map some) (had : wt.map (fun q => q.1) = wc.map (fun q => q.1)) (hT : is.map (fun i => wn[i]?) = wt.map some) (hR : isR.map (fun i => ws[i]?) = wr.map some) (hR2 : isR.map (fun i => wn[i]?) = wr.map some) (hcov : (List.range n).all (fun k => is.contains k || isR.contains k) = true) (hdis : isR.all (fun k => !is.contains k) = true) (hlen : wn.length = n)
    (kk : ∀ (H1 : Heap) (locs1 : List Loc), va_P D vwCl wn H1 → va_D A wn → va_S A H0 H1 locs1 → W p l e R s m args below meth c H1 locs1 cells slots Q (F0 m (pc + 3) ls (.ref r :: rest))) : W p l e R s m args below meth c H locs cells slots Q (F0 m pc ls st0) := by
  have hF := va_free (wc := wc) hD hS hA is hC
  refine va_callr hr hS (fun q _ h => hF q h) hF (fun u ra t H1 locs1 ht hvm hw hB hz1 hk1 hS1 => ?_)
  obtain ⟨rfl, hB⟩ := hB
  rw [ht] at hB
  obtain ⟨hP1, hD1⟩ := kput_ok hP hD is isR n hC had hT hR hR2 hcov hdis hlen hk1 hB
  exact kk H1 locs1 hP1 hD1 hS1
variable {cc bytes : ByteArray} {nL maxL n idx : Nat} {own C host : String} {Ts w : List Cond} {y : MethodName} {ret : Option FieldType} {rm : Room} {b : Nat} {As : List Value} {Qc : Array Value → State → Outcome → State → Prop}
/-- a call of an instance method -/
theorem kr_V (S : CallFix p m c cc nL s args Ts own) (hK : va_K D vwCl tys s) (hN : kN s) (hP : va_P D vwCl ws H) (hD : va_D A ws) (hl : ls.size = nL)
    (hM : Met l y w rm (va_Pc (.ref b :: As) (kPre D tys H.size wc)) Qc 0 0 (va_A wc H.size)) (hg : kSig y w bytes maxL ret C n) (hz : rm.cells = 0 ∧ rm.slots = 0) (hR : rm.frames + 1 ≤ R.frames ∧ 8 + (maxL + 11) + rm.locals ≤ R.locals)
    (hT : GoodIn Ts (wsV own idx C y w)) (q0 : Nat) {ci : Nat} {fs : List Value} {q : vw_C} (hq : ws[q0]? = some (b, .inr (ci, fs))) (hc : vwCl[ci]? = some q) (hqC : q.1 = C)
    (is : List Nat) (hn : va_nd is = true) (hC : is.map (fun i => ws[i]?) = wc.map some) (hlen : As.length = n) (hst : st0 = As.reverse ++ .ref b :: rest) (hrm : (rest.map fun v => v.category).sum ≤ 8) (hdg : decode cc pc = .ok (.invokevirtual idx, 3)) (hf : cells ≤ R.cells ∧ slots ≤ R.slots) :
    va_Run p l e R s m args below meth c H locs cells slots 0 0 (F0 m pc ls st0) rest (Qc (Value.ref b :: As).toArray) (va_A wc H.size) := by
  subst hqC
  obtain ⟨⟨w0, hw⟩, hcl, hpl, hd⟩ := hg
  refine va_runV (As := As) (rest := rest) S hM (cwV n S.2.2.2.2 hT hw hz.1 hz.2 ⟨hcl, hd⟩ hR) ⟨kPre_blind, va_recv hK hP hc hq, fun U hU hW => ⟨rfl, by rw [hU], by rw [hU]; exact va_P_part hP is hC, va_K.moved hW.alike hK, kN_warm hW hN, va_D_part hD is hn hC⟩⟩ rfl hlen hl hst (lv_room hrm) hdg hf
/-- a call of a static method of the same class -/
theorem kr_S (S : CallFix p m c cc nL s args Ts own) (hK : va_K D vwCl tys s) (hN : kN s) (hP : va_P D vwCl ws H) (hD : va_D A ws) (hl : ls.size = nL)
    (hM : Met l y w rm (va_Pc As (kPre D tys H.size wc)) Qc 0 0 (va_A wc H.size)) (hg : kSig y w bytes maxL ret own n) (hz : rm.cells = 0 ∧ rm.slots = 0) (hR : rm.frames + 1 ≤ R.frames ∧ 8 + (maxL + 11) + rm.locals ≤ R.locals)
    (hT : GoodIn Ts (wsS own idx y w))
    (is : List Nat) (hn : va_nd is = true) (hC : is.map (fun i => ws[i]?) = wc.map some) (hlen : As.length = n) (hst : st0 = As.reverse ++ rest) (hrm : (rest.map fun v => v.category).sum ≤ 8) (hdg : decode cc pc = .ok (.invokestatic idx, 3)) (hf : cells ≤ R.cells ∧ slots ≤ R.slots) :
    va_Run p l e R s m args below meth c H locs cells slots 0 0 (F0 m pc ls st0) rest (Qc As.toArray) (va_A wc H.size) := by
  obtain ⟨⟨w0, hw⟩, hcl, hpl, hd⟩ := hg
  exact va_runS (As := As) (rest := rest) S hM (cwS n S.2.2.2.2 hT hw hz.1 hz.2 ⟨hcl, hd⟩ hR) ⟨kPre_blind, fun U hU hW => ⟨rfl, by rw [hU], by rw [hU]; exact va_P_part hP is hC, va_K.moved hW.alike hK, kN_warm hW hN, va_D_part hD is hn hC⟩⟩ rfl hlen hl hst (lv_room hrm) hdg hf
/-- a call of a static method of another class -/
theorem kr_T (S : CallFix p m c cc nL s args Ts own) (hK : va_K D vwCl tys s) (hN : kN s) (hP : va_P D vwCl ws H) (hD : va_D A ws) (hl : ls.size = nL)
    (hM : Met l y w rm (va_Pc As (kPre D tys H.size wc)) Qc 0 0 (va_A wc H.size)) (hg : kSig y w bytes maxL ret C n) (hz : rm.cells = 0 ∧ rm.slots = 0) (hR : rm.frames + 1 ≤ R.frames ∧ 8 + (maxL + 11) + rm.locals ≤ R.locals)
    (hT : GoodIn Ts (va_wsS own idx y w))
    (is : List Nat) (hn : va_nd is = true) (hC : is.map (fun i => ws[i]?) = wc.map some) (hlen : As.length = n) (hst : st0 = As.reverse ++ rest) (hrm : (rest.map fun v => v.category).sum ≤ 8) (hdg : decode cc pc = .ok (.invokestatic idx, 3)) (hf : cells ≤ R.cells ∧ slots ≤ R.slots) :
    va_Run p l e R s m args below meth c H locs cells slots 0 0 (F0 m pc ls st0) rest (Qc As.toArray) (va_A wc H.size) := by
  obtain ⟨⟨w0, hw⟩, hcl, hpl, hd⟩ := hg
  exact va_runS (As := As) (rest := rest) S hM (va_cwS n S.2.2.2.2 hT hw hz.1 hz.2 hd hR) ⟨kPre_blind, fun U hU hW => ⟨rfl, by rw [hU], by rw [hU]; exact va_P_part hP is hC, va_K.moved hW.alike hK, kN_warm hW hN, va_D_part hD is hn hC⟩⟩ rfl hlen hl hst (lv_room hrm) hdg hf
/-- a call of a private static method of a nest mate -/
theorem kr_N (S : CallFix p m c cc nL s args Ts own) (hK : va_K D vwCl tys s) (hN : kN s) (hP : va_P D vwCl ws H) (hD : va_D A ws) (hl : ls.size = nL)
    (hM : Met l y w rm (va_Pc As (kPre D tys H.size wc)) Qc 0 0 (va_A wc H.size)) (hg : kSig y w bytes maxL ret C n) (hz : rm.cells = 0 ∧ rm.slots = 0) (hR : rm.frames + 1 ≤ R.frames ∧ 8 + (maxL + 11) + rm.locals ≤ R.locals)
    (hT : GoodIn Ts w) (hlk : Cond.methodLinkNest own idx y host ∈ kNw) (hini : Cond.initialized y.cls ∈ Ts) (hstt : Cond.static y ∈ Ts)
    (is : List Nat) (hn : va_nd is = true) (hC : is.map (fun i => ws[i]?) = wc.map some) (hlen : As.length = n) (hst : st0 = As.reverse ++ rest) (hrm : (rest.map fun v => v.category).sum ≤ 8) (hdg : decode cc pc = .ok (.invokestatic idx, 3)) (hf : cells ≤ R.cells ∧ slots ≤ R.slots) :
    va_Run p l e R s m args below meth c H locs cells slots 0 0 (F0 m pc ls st0) rest (Qc As.toArray) (va_A wc H.size) := by
  obtain ⟨⟨w0, hw⟩, hcl, hpl, hd⟩ := hg
  exact va_runSN (As := As) (rest := rest) S hM ⟨va_cnB n S.2.2.2.2 hT hw hz.1 hz.2 (hN _ hlk) (S.2.2.2.2 _ hini) hd hR, S.2.2.2.2 _ hstt, trivial⟩ ⟨kPre_blind, fun U hU hW => ⟨rfl, by rw [hU], by rw [hU]; exact va_P_part hP is hC, va_K.moved hW.alike hK, kN_warm hW hN, va_D_part hD is hn hC⟩⟩ rfl hlen hl hst (lv_room hrm) hdg hf
end KC
/-- a method's entry and its ends, once for all: an int or a boolean -/
theorem kMi_of {l : Launch} {y : MethodName} {w : List Cond} {rm : Room} {D : va_G} {tys : List (ClassId × FieldType)} {av : List Value} {ws wt : va_W} {r : Int32} {cc : ByteArray} {maxL n : Nat} {ty : FieldType} {own : String} (hg : kSig y w cc maxL (some ty) own n) (hz : rm.cells = 0 ∧ rm.slots = 0) (hlen : (lg_sl av).length ≤ maxL)
    (body : ∀ (p : Program) (e : Env) (s : State) (m : MethodId) (args : Array Value) (below : List Frame) (meth : Method) (c : Code) (A : Nat → Prop) (H0 : Heap) (Q : State → Prop),
      p.tables.exec = Jvm.exec → c.code = cc → c.maxLocals = maxL → s.vm.findClass own = some m.cls → (∀ q ∈ w, q.before args s = true) → va_K D vwCl tys s → kN s → (∀ q, H0.size ≤ q → A q) →
      (∀ (H : Heap) (locs : List Loc) (ls : Array Slot) (pc : Nat), decode cc pc = .ok (.ireturn, 1) → narrow ty (.int r) = .int r → va_P D vwCl wt H → va_S A H0 H locs → W p l e rm s m args below meth c H locs 0 0 Q (F0 m pc ls [.int r])) →
      ∀ (H : Heap) (locs : List Loc) (ls : Array Slot), va_P D vwCl ws H → va_D A ws → va_S A H0 H locs → lv_has ls maxL (lv_args 0 av) → W p l e rm s m args below meth c H locs 0 0 Q (F0 m 0 ls [])) : kMi l y w rm D tys av ws wt r := by
  intro sz
  obtain ⟨⟨w0, hw⟩, hcl, hpl, -⟩ := hg
  refine Met.ofW (cc := cc) (maxL := maxL) (ret := some ty) hpl hw ?_
  intro p e s m args below meth c s₁ B hml hv
  obtain ⟨rfl, hsz, hP, hK, hN, hD0⟩ := hv
  have hr := B.returns
  have hlocks := B.notSynchronized
  subst hsz
  have hown : s.vm.findClass own = some m.cls := by rw [← hcl]; exact findClass_of_methodNamed B.named
  rw [lg_entry_eq]
  refine body p e s m av.toArray below meth c (va_A ws s.heap.size) s.heap _ B.exec B.bytes hml hown (atoms_spec (ws := w) B.pre) hK hN (fun q h => Or.inr h) (fun H locs ls pc hdg hn hP2 hS => ?_) s.heap [] _ hP hD0.self va_S.rf (lv_entry av hlen)
  exact W.zret (v := r) B.exec B.bytes hr hn (fun t ht hW => ⟨⟨r, (), rfl, rfl, by show va_P D vwCl wt t.heap; rw [ht]; exact hP2⟩, hS.F ht⟩) hS.2.2 hdg
theorem kMl_of {l : Launch} {y : MethodName} {w : List Cond} {rm : Room} {D : va_G} {tys : List (ClassId × FieldType)} {av : List Value} {ws wt : va_W} {r : Int64} {cc : ByteArray} {maxL n : Nat} {own : String} (hg : kSig y w cc maxL (some .long) own n) (hz : rm.cells = 0 ∧ rm.slots = 0) (hlen : (lg_sl av).length ≤ maxL)
    (body : ∀ (p : Program) (e : Env) (s : State) (m : MethodId) (args : Array Value) (below : List Frame) (meth : Method) (c : Code) (A : Nat → Prop) (H0 : Heap) (Q : State → Prop),
      p.tables.exec = Jvm.exec → c.code = cc → c.maxLocals = maxL → s.vm.findClass own = some m.cls → (∀ q ∈ w, q.before args s = true) → va_K D vwCl tys s → kN s → (∀ q, H0.size ≤ q → A q) →
      (∀ (H : Heap) (locs : List Loc) (ls : Array Slot) (pc : Nat), decode cc pc = .ok (.lreturn, 1) → va_P D vwCl wt H → va_S A H0 H locs → W p l e rm s m args below meth c H locs 0 0 Q (F0 m pc ls [.long r])) →
      ∀ (H : Heap) (locs : List Loc) (ls : Array Slot), va_P D vwCl ws H → va_D A ws → va_S A H0 H locs → lv_has ls maxL (lv_args 0 av) → W p l e rm s m args below meth c H locs 0 0 Q (F0 m 0 ls [])) : kMl l y w rm D tys av ws wt r := by
  intro sz
  obtain ⟨⟨w0, hw⟩, hcl, hpl, -⟩ := hg
  refine Met.ofW (cc := cc) (maxL := maxL) (ret := some .long) hpl hw ?_
  intro p e s m args below meth c s₁ B hml hv
  obtain ⟨rfl, hsz, hP, hK, hN, hD0⟩ := hv
  have hr := B.returns
  have hlocks := B.notSynchronized
  subst hsz
  have hown : s.vm.findClass own = some m.cls := by rw [← hcl]; exact findClass_of_methodNamed B.named
  rw [lg_entry_eq]
  refine body p e s m av.toArray below meth c (va_A ws s.heap.size) s.heap _ B.exec B.bytes hml hown (atoms_spec (ws := w) B.pre) hK hN (fun q h => Or.inr h) (fun H locs ls pc hdg hP2 hS => ?_) s.heap [] _ hP hD0.self va_S.rf (lv_entry av hlen)
  exact W.lret (v := r) B.exec B.bytes hr (fun t ht hW => ⟨⟨r, (), rfl, rfl, by show va_P D vwCl wt t.heap; rw [ht]; exact hP2⟩, hS.F ht⟩) hS.2.2 hdg
theorem kMv_of {l : Launch} {y : MethodName} {w : List Cond} {rm : Room} {D : va_G} {tys : List (ClassId × FieldType)} {av : List Value} {ws wt : va_W} {cc : ByteArray} {maxL n : Nat} {own : String} (hg : kSig y w cc maxL none own n) (hz : rm.cells = 0 ∧ rm.slots = 0) (hlen : (lg_sl av).length ≤ maxL)
    (body : ∀ (p : Program) (e : Env) (s : State) (m : MethodId) (args : Array Value) (below : List Frame) (meth : Method) (c : Code) (A : Nat → Prop) (H0 : Heap) (Q : State → Prop),
      p.tables.exec = Jvm.exec → c.code = cc → c.maxLocals = maxL → s.vm.findClass own = some m.cls → (∀ q ∈ w, q.before args s = true) → va_K D vwCl tys s → kN s → (∀ q, H0.size ≤ q → A q) →
      (∀ (H : Heap) (locs : List Loc) (ls : Array Slot) (pc : Nat), decode cc pc = .ok (.return_, 1) → va_P D vwCl wt H → va_S A H0 H locs → W p l e rm s m args below meth c H locs 0 0 Q (F0 m pc ls [])) →
      ∀ (H : Heap) (locs : List Loc) (ls : Array Slot), va_P D vwCl ws H → va_D A ws → va_S A H0 H locs → lv_has ls maxL (lv_args 0 av) → W p l e rm s m args below meth c H locs 0 0 Q (F0 m 0 ls [])) : kMv l y w rm D tys av ws wt := by
  intro sz
  obtain ⟨⟨w0, hw⟩, hcl, hpl, -⟩ := hg
  refine Met.ofW (cc := cc) (maxL := maxL) (ret := none) hpl hw ?_
  intro p e s m args below meth c s₁ B hml hv
  obtain ⟨rfl, hsz, hP, hK, hN, hD0⟩ := hv
  have hr := B.returns
  have hlocks := B.notSynchronized
  subst hsz
  have hown : s.vm.findClass own = some m.cls := by rw [← hcl]; exact findClass_of_methodNamed B.named
  rw [lg_entry_eq]
  refine body p e s m av.toArray below meth c (va_A ws s.heap.size) s.heap _ B.exec B.bytes hml hown (atoms_spec (ws := w) B.pre) hK hN (fun q h => Or.inr h) (fun H locs ls pc hdg hP2 hS => ?_) s.heap [] _ hP hD0.self va_S.rf (lv_entry av hlen)
  exact W.vret B.exec B.bytes hr (fun t ht hW => ⟨⟨(), rfl, trivial, by show va_P D vwCl wt t.heap; rw [ht]; exact hP2⟩, hS.F ht⟩) hS.2.2 hdg
theorem kMr_of {l : Launch} {y : MethodName} {w : List Cond} {rm : Room} {D : va_G} {tys : List (ClassId × FieldType)} {av : List Value} {ws wt : va_W} {r : Nat} {cc : ByteArray} {maxL n : Nat} {own rt : String} (hg : kSig y w cc maxL (some (.object rt)) own n) (hz : rm.cells = 0 ∧ rm.slots = 0) (hlen : (lg_sl av).length ≤ maxL)
    (body : ∀ (p : Program) (e : Env) (s : State) (m : MethodId) (args : Array Value) (below : List Frame) (meth : Method) (c : Code) (A : Nat → Prop) (H0 : Heap) (Q : State → Prop),
      p.tables.exec = Jvm.exec → c.code = cc → c.maxLocals = maxL → s.vm.findClass own = some m.cls → (∀ q ∈ w, q.before args s = true) → va_K D vwCl tys s → kN s → (∀ q, H0.size ≤ q → A q) →
      (∀ (H : Heap) (locs : List Loc) (ls : Array Slot) (pc : Nat), decode cc pc = .ok (.areturn, 1) → va_P D vwCl wt H → va_S A H0 H locs → W p l e rm s m args below meth c H locs 0 0 Q (F0 m pc ls [.ref r])) →
      ∀ (H : Heap) (locs : List Loc) (ls : Array Slot), va_P D vwCl ws H → va_D A ws → va_S A H0 H locs → lv_has ls maxL (lv_args 0 av) → W p l e rm s m args below meth c H locs 0 0 Q (F0 m 0 ls [])) : kMr l y w rm D tys av ws wt r := by
  intro sz
  obtain ⟨⟨w0, hw⟩, hcl, hpl, -⟩ := hg
  refine Met.ofW (cc := cc) (maxL := maxL) (ret := some (.object rt)) hpl hw ?_
  intro p e s m args below meth c s₁ B hml hv
  obtain ⟨rfl, hsz, hP, hK, hN, hD0⟩ := hv
  have hr := B.returns
  have hlocks := B.notSynchronized
  subst hsz
  have hown : s.vm.findClass own = some m.cls := by rw [← hcl]; exact findClass_of_methodNamed B.named
  rw [lg_entry_eq]
  refine body p e s m av.toArray below meth c (va_A ws s.heap.size) s.heap _ B.exec B.bytes hml hown (atoms_spec (ws := w) B.pre) hK hN (fun q h => Or.inr h) (fun H locs ls pc hdg hP2 hS => ?_) s.heap [] _ hP hD0.self va_S.rf (lv_entry av hlen)
  exact W.aret (v := .ref r) B.exec B.bytes hr (Or.inl ⟨rt, rfl⟩) (Or.inr ⟨r, rfl⟩) (fun t ht hW => ⟨⟨(), r, rfl, trivial, rfl, by show va_P D vwCl wt t.heap; rw [ht]; exact hP2⟩, hS.F ht⟩) hS.2.2 hdg
/-! pure: steps that may fail -/
def kb1 {α ρ : Type} (o : Option α) (k : α → Option ρ) : Option ρ := match o with
  | some x => k x
  | none => none
theorem kb1_e {α ρ : Type} {o : Option α} {k : α → Option ρ} {r : ρ} (h : kb1 o k = some r) : ∃ x, o = some x ∧ k x = some r := by
  cases o with
  | none => cases h
  | some x => exact ⟨x, rfl, h⟩
theorem kb1_s {α ρ : Type} {o : Option α} {k : α → Option ρ} {x : α} (h : o = some x) : kb1 o k = k x := by rw [h]; rfl
theorem kt {P : Prop} [Decidable P] {ρ : Type} {a b : ρ} {r : ρ} (c : P) (h : (if P then a else b) = r) : a = r := by rw [if_pos c] at h; exact h
theorem kf {P : Prop} [Decidable P] {ρ : Type} {a b : ρ} {r : ρ} (c : ¬ P) (h : (if P then a else b) = r) : b = r := by rw [if_neg c] at h; exact h
/-- a test that must hold, else nothing is said -/
def kg {ρ : Type} (b : Bool) (k : Option ρ) : Option ρ := if b = true then k else none
theorem kg_e {ρ : Type} {b : Bool} {k : Option ρ} {r : ρ} (h : kg b k = some r) : b = true ∧ k = some r := by
  unfold kg at h
  split at h
  · exact ⟨by assumption, h⟩
  · cases h
def kin (i : Int32) (n : Nat) : Bool := decide (¬ (i < 0 ∨ n ≤ i.toNatClampNeg))
theorem kin_e {i : Int32} {n : Nat} (h : kin i n = true) : vp_in i n := by
  unfold kin at h
  have h2 : ¬ (i < 0 ∨ n ≤ i.toNatClampNeg) := of_decide_eq_true h
  exact h2
def knz (i : Int32) : Bool := decide (¬ i = 0)
theorem knz_e {i : Int32} (h : knz i = true) : ¬ i = 0 := by
  unfold knz at h
  exact of_decide_eq_true h
def kbo (i : Int32) : Bool := decide (i = 0 ∨ i = 1)
theorem kbo_e {i : Int32} (h : kbo i = true) : narrow .boolean (.int i) = .int i := by
  rcases of_decide_eq_true h with h | h <;> subst h <;> rfl
