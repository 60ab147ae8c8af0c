abbrev kTy (cI cZ : ClassId) : List (ClassId × FieldType) := [(cI, .int), (cZ, .boolean)]
section KA
variable {p : Program} {l : Launch} {e : Env} {R : Room} {s : State} {m : MethodId} {args : Array Value} {below : List Frame} {meth : Method} {c : Code} {H : Heap} {locs : List Loc} {cells slots : Nat} {Q : State → Prop}
variable {cc : ByteArray} {pc : Nat} {ls : Array Slot} {rest : List Value} {D : va_G} {cl : List vw_C} {A : Nat → Prop} {a : Nat} {tys : List (ClassId × FieldType)} {ws : va_W} {H0 : Heap}
theorem ka_ild (hexec : p.tables.exec = Jvm.exec) (hb : c.code = cc) (hK : va_K D cl tys s) (hP : va_P D cl ws H) (q0 t0 : Nat) {cA : ClassId} {n k : Nat} {f : Nat → Int32} (ha : ws[q0]? = some (a, .inl (cA, n, .inl f))) (ht : tys[t0]? = some (cA, .int)) {i : Int32} (hin : vp_in i n) (hk : i.toNatClampNeg = k) (hdg : decode cc pc = .ok (.iaload, 1))
    (kk : W p l e R s m args below meth c H locs cells slots Q (F0 m (pc + 1) ls (.int (f k) :: rest))) : W p l e R s m args below meth c H locs cells slots Q (F0 m pc ls (.int i :: .ref a :: rest)) := by
  subst hk
  exact va_iald hexec hb hK hP q0 t0 ha ht hin hdg kk
theorem ka_zld (hexec : p.tables.exec = Jvm.exec) (hb : c.code = cc) (hK : va_K D cl tys s) (hP : va_P D cl ws H) (q0 t0 : Nat) {cA : ClassId} {n k : Nat} {f : Nat → Int32} (ha : ws[q0]? = some (a, .inl (cA, n, .inl f))) (ht : tys[t0]? = some (cA, .boolean)) {i : Int32} (hin : vp_in i n) (hk : i.toNatClampNeg = k) (hdg : decode cc pc = .ok (.baload, 1))
    (kk : W p l e R s m args below meth c H locs cells slots Q (F0 m (pc + 1) ls (.int (f k) :: rest))) : W p l e R s m args below meth c H locs cells slots Q (F0 m pc ls (.int i :: .ref a :: rest)) := by
  subst hk
  exact va_zald hexec hb hK hP q0 t0 ha ht hin hdg kk
theorem ka_ist (hexec : p.tables.exec = Jvm.exec) (hb : c.code = cc) (hK : va_K D cl tys s) (hP : va_P D cl ws H) (hD : va_D A ws) (hS : va_S A H0 H locs) (q0 t0 : Nat) {cA : ClassId} {n k : Nat} {f : Nat → Int32} (ha : ws[q0]? = some (a, .inl (cA, n, .inl f))) (ht : tys[t0]? = some (cA, .int)) {i : Int32} {x : Int32} (hin : vp_in i n) (hk : i.toNatClampNeg = k) (hdg : decode cc pc = .ok (.iastore, 1))
    (kk : ∀ (H1 : Heap) (locs1 : List Loc), va_P D cl (ws.set q0 (a, .inl (cA, n, .inl (upd f k x)))) H1 → va_D A (ws.set q0 (a, .inl (cA, n, .inl (upd f k x)))) → va_S A H0 H1 locs1 → W p l e R s m args below meth c H1 locs1 cells slots Q (F0 m (pc + 1) ls rest)) : W p l e R s m args below meth c H locs cells slots Q (F0 m pc ls (.int x :: .int i :: .ref a :: rest)) := by
  subst hk
  exact va_iast hexec hb hK hP hD hS q0 t0 ha ht hin hdg kk
theorem ka_zst (hexec : p.tables.exec = Jvm.exec) (hb : c.code = cc) (hK : va_K D cl tys s) (hP : va_P D cl ws H) (hD : va_D A ws) (hS : va_S A H0 H locs) (q0 t0 : Nat) {cA : ClassId} {n k : Nat} {f : Nat → Int32} (ha : ws[q0]? = some (a, .inl (cA, n, .inl f))) (ht : tys[t0]? = some (cA, .boolean)) {i : Int32} {x : Int32} (hin : vp_in i n) (hk : i.toNatClampNeg = k) (hx0 : vp_nar .boolean x = x) (hdg : decode cc pc = .ok (.bastore, 1))
    (kk : ∀ (H1 : Heap) (locs1 : List Loc), va_P D cl (ws.set q0 (a, .inl (cA, n, .inl (upd f k x)))) H1 → va_D A (ws.set q0 (a, .inl (cA, n, .inl (upd f k x)))) → va_S A H0 H1 locs1 → W p l e R s m args below meth c H1 locs1 cells slots Q (F0 m (pc + 1) ls rest)) : W p l e R s m args below meth c H locs cells slots Q (F0 m pc ls (.int x :: .int i :: .ref a :: rest)) := by
  subst hk
  refine va_zast hexec hb hK hP hD hS q0 t0 ha ht hin hdg (fun H1 locs1 h1 h2 h3 => ?_)
  rw [hx0] at h1 h2
  exact kk H1 locs1 h1 h2 h3
end KA
/-! constructors: from one cell, alone, to a world of cells whose places are told by a function -/
def kMc (l : Launch) (y : MethodName) (w : List Cond) (rm : Room) (D : va_G) (tys : List (ClassId × FieldType)) (av : List Value) (w0 : va_W) (wt : (Nat → Nat) → va_W) (mc ms : Nat) : Prop :=
  ∀ sz : Nat, Met l y w rm (va_Pc av (kPre D tys sz w0)) (va_Qv (fun (_ : Nat → Nat) => True) (fun u t => va_P D vwCl (wt u) t.heap ∧ va_D (va_A w0 sz) (wt u)) (va_A w0 sz)) mc ms (va_A w0 sz)
section KI
variable {p : Program} {l : Launch} {e : Env} {R : Room} {s : State} {m : MethodId} {args : Array Value} {below : List Frame} {meth : Method} {c : Code} {H : Heap} {locs : List Loc} {cells slots : Nat} {Q : State → Prop}
variable {pc : Nat} {ls : Array Slot} {rest st0 : List Value} {a : Array Value} {A : Nat → Prop} {H0 : Heap}
variable {D : va_G} {tys : List (ClassId × FieldType)} {ws wc wr wn : va_W} {wt : (Nat → Nat) → va_W} {mc ms : Nat}
theorem kc_c (hr : va_Run p l e R s m args below meth c H locs cells slots mc ms (F0 m pc ls st0) rest (va_Qv (fun (_ : Nat → Nat) => True) (fun u t => va_P D vwCl (wt u) t.heap ∧ va_D (va_A wc H.size) (wt u)) (va_A wc H.size) a) (va_A wc H.size))
    (hA : ∀ q, H0.size ≤ q → A q) (hP : va_P D vwCl ws H) (hD : va_D A ws) (hS : va_S A H0 H locs) (isC isR : List Nat) (hC : isC.map (fun i => ws[i]?) = wc.map some) (hR : isR.map (fun i => ws[i]?) = wr.map some) (hn : va_nd isR = true) (hdis : ∀ i ∈ isR, i ∉ isC)
    (kk : ∀ (u : Nat → Nat) (H1 : Heap) (locs1 : List Loc), va_P D vwCl (wr ++ wt u) H1 → va_D A (wr ++ wt u) → va_S A H0 H1 locs1 → W p l e R s m args below meth c H1 locs1 (cells + mc) (slots + ms) Q (F0 m (pc + 3) ls rest)) : W p l e R s m args below meth c H locs cells slots Q (F0 m pc ls st0) := by
  have hF := va_free (wc := wc) hD hS hA isC hC
  refine va_callv hr hS (fun q _ h => hF q h) hF (fun u t H1 locs1 ht hvm hw hB hz1 hk1 hS1 => ?_)
  obtain ⟨hB1, hB2⟩ := hB
  rw [ht] at hB1
  obtain ⟨hP1, hD1⟩ := va_join (wr := wr) (w1 := wt u) hP hD isC isR hC hR hn hdis hk1 hF hB1 hB2
  exact kk u H1 locs1 hP1 hD1 hS1
variable {cc bytes : ByteArray} {nL maxL n idx : Nat} {own C : String} {Ts w : List Cond} {y : MethodName} {rm : Room} {b : Nat} {As : List Value} {Qc : Array Value → State → Outcome → State → Prop}
theorem kr_I (S : CallFix p m c cc nL s args Ts own) (hK : va_K D vwCl tys s) (hN : kN s) (hP : va_P D vwCl ws H) (hD : va_D A ws) (hl : ls.size = nL)
    (hM : Met l y w rm (va_Pc (.ref b :: As) (kPre D tys H.size wc)) Qc mc ms (va_A wc H.size)) (hg : kSig y w bytes maxL none C n) (hz : rm.cells = mc ∧ rm.slots = ms) (hR : rm.frames + 1 ≤ R.frames ∧ 8 + (maxL + 11) + rm.locals ≤ R.locals)
    (hT : GoodIn Ts w) (hini : Cond.initialized y.cls ∈ Ts) (hlk : Cond.methodLink own idx y ∈ Ts) (hinst : Cond.instanceMethod y ∈ Ts) (hy1 : y.name = "<init>")
    (is : List Nat) (hn : va_nd is = true) (hC : is.map (fun i => ws[i]?) = wc.map some) (hlen : As.length = n) (hst : st0 = As.reverse ++ .ref b :: rest) (hrm : (rest.map fun v => v.category).sum ≤ 8) (hdg : decode cc pc = .ok (.invokespecial idx, 3)) (hf : cells + mc ≤ R.cells ∧ slots + ms ≤ R.slots) :
    va_Run p l e R s m args below meth c H locs cells slots mc ms (F0 m pc ls st0) rest (Qc (Value.ref b :: As).toArray) (va_A wc H.size) := by
  obtain ⟨⟨w0, hw⟩, hcl, hpl, hd⟩ := hg
  exact va_runI (As := As) (rest := rest) S hM (cwI n S.2.2.2.2 hT hw hz.1 hz.2 (S.2.2.2.2 _ hini) (S.2.2.2.2 _ hlk) (S.2.2.2.2 _ hinst) hy1 hd hR) ⟨kPre_blind, fun U hU hW => ⟨rfl, by rw [hU], by rw [hU]; exact va_P_part hP is hC, va_K.moved hW.alike hK, kN_warm hW hN, va_D_part hD is hn hC⟩⟩ rfl hlen hl hst (lv_room hrm) hdg hf
end KI
theorem kMc_of {l : Launch} {y : MethodName} {w : List Cond} {rm : Room} {D : va_G} {tys : List (ClassId × FieldType)} {av : List Value} {w0 : va_W} {wt : (Nat → Nat) → va_W} {mc ms : Nat} {cc : ByteArray} {maxL n : Nat} {own : String} (hg : kSig y w cc maxL none own n) (hlen : (lg_sl av).length ≤ maxL)
    (body : ∀ (p : Program) (e : Env) (s : State) (m : MethodId) (args : Array Value) (below : List Frame) (meth : Method) (c : Code) (A : Nat → Prop) (H0 : Heap) (Q : State → Prop),
      p.tables.exec = Jvm.exec → c.code = cc → c.maxLocals = maxL → s.vm.findClass own = some m.cls → (∀ q ∈ w, q.before args s = true) → va_K D vwCl tys s → kN s → (∀ q, H0.size ≤ q → A q) → meth.name = y.name →
      (∀ (u : Nat → Nat) (H : Heap) (locs : List Loc) (ls : Array Slot) (pc : Nat), decode cc pc = .ok (.return_, 1) → va_P D vwCl (wt u) H → va_D A (wt u) → va_S A H0 H locs → W p l e rm s m args below meth c H locs mc ms Q (F0 m pc ls [])) →
      ∀ (H : Heap) (locs : List Loc) (ls : Array Slot), va_P D vwCl w0 H → va_D A w0 → va_S A H0 H locs → lv_has ls maxL (lv_args 0 av) → W p l e rm s m args below meth c H locs 0 0 Q (F0 m 0 ls [])) : kMc l y w rm D tys av w0 wt mc ms := by
  intro sz
  obtain ⟨⟨w1, hw⟩, hcl, hpl, -⟩ := hg
  refine Met.ofW (cc := cc) (maxL := maxL) (ret := none) hpl hw ?_
  intro p e s m args below meth c s₁ B hml hv
  obtain ⟨rfl, hsz, hP, hK, hN, hD0⟩ := hv
  have hr := B.returns
  have hlocks := B.notSynchronized
  subst hsz
  have hown : s.vm.findClass own = some m.cls := by rw [← hcl]; exact findClass_of_methodNamed B.named
  rw [lg_entry_eq]
  refine body p e s m av.toArray below meth c (va_A w0 s.heap.size) s.heap _ B.exec B.bytes hml hown (atoms_spec (ws := w) B.pre) hK hN (fun q h => Or.inr h) (name_of_methodNamed B.named B.method).1 (fun u H locs ls pc hdg hP2 hD2 hS => ?_) s.heap [] _ hP hD0.self va_S.rf (lv_entry av hlen)
  exact W.vret B.exec B.bytes hr (fun t ht hW => ⟨⟨u, rfl, trivial, by show va_P D vwCl (wt u) t.heap ∧ va_D (va_A w0 s.heap.size) (wt u); rw [ht]; exact ⟨hP2, hD2⟩⟩, hS.F ht⟩) hS.2.2 hdg
/-- a new array has the one class that the tables name -/
theorem kcls {D : va_G} {cl : List vw_C} {t1 t2 : List (ClassId × FieldType)} {s : State} {ty : FieldType} {cA cB : ClassId} (h1 : va_K D cl t1 s) (h2 : va_K D cl t2 s) (i j : Nat) (hi : t1[i]? = some (cA, ty)) (hj : t2[j]? = some (cB, ty)) (hty : va_RA s cA ty = (s.vm.findClass ("[" ++ ty.toString) = some cA)) (hty2 : va_RA s cB ty = (s.vm.findClass ("[" ++ ty.toString) = some cB)) : cA = cB := by
  have a1 := (h1.2 i _ hi).2
  have a2 := (h2.2 j _ hj).2
  rw [hty] at a1
  rw [hty2] at a2
  exact Option.some.inj (a1.symm.trans a2)
theorem kst0 (x : Int) : x < 0 ∨ 0 ≤ x := by omega
theorem kst {x k k' : Int} (h : x < 0 ∨ k ≤ x) (hn : ¬ x = k) (hk : k + 1 = k') : x < 0 ∨ k' ≤ x := by omega
theorem kst_e {x hi k' : Int} (h : x < 0 ∨ k' ≤ x) (hk : hi + 1 = k') : x < 0 ∨ hi < x := by omega
