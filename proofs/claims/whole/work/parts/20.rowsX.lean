/-! ROWS for the class: statics, copies, rows of references, kinds, texts -/
section RwX
variable {p : Program} {l : Launch} {e : Env} {R : Room} {s : State} {m : MethodId} {args : Array Value} {below : List Frame} {meth : Method} {c : Code} {H : Heap} {locs : List Loc} {Q : State → Prop} {cells slots : Nat}
variable {Γ : Gm} {own : String} {cc : ByteArray} {nL : Nat} {ret : Option FieldType} {w0 w1 ws ws' wc wr : va_W} {pc : Nat} {ls : Array Slot} {st0 rest As av : List Value} {a b : Nat}
variable {y : MethodName} {bs : ByteArray} {mL index n : Nat} {rt : Option FieldType} {rm : Room} {C : String} {Qc : Nat → Array Value → State → Outcome → State → Prop} {mc ms : Nat}
theorem x_gets (X : Cx Γ p s m args meth c own cc nL ret w0) (Y : Wd Γ w0 s ws H locs) (i : Nat) {q : String × List Int32} (hq : STA[i]? = some q) (hlink : Cond.fieldLink own index "ThrownOver" q.1 "[I" ∈ GW) (hdg : decode cc pc = .ok (.getstatic index, 3))
    (kk : W p l e R s m args below meth c H locs cells slots Q (F0 m (pc + 3) ls (.ref (Γ.2.2 i) :: rest))) : W p l e R s m args below meth c H locs cells slots Q (F0 m pc ls rest) :=
  va_gets X.1 X.2.1 (X.E.2.1 i q hq).1 Y.2.2 X.2.2.2.1 (X.2.2.2.2.1 _ hlink) (fun _ h => h) hdg kk
theorem x_getsN {host : String} (X : Cx Γ p s m args meth c own cc nL ret w0) (Y : Wd Γ w0 s ws H locs) (i : Nat) {q : String × List Int32} (hq : STA[i]? = some q) (hlink : Cond.fieldLinkNest own index "ThrownOver" q.1 "[I" host ∈ NW) (hdg : decode cc pc = .ok (.getstatic index, 3))
    (kk : W p l e R s m args below meth c H locs cells slots Q (F0 m (pc + 3) ls (.ref (Γ.2.2 i) :: rest))) : W p l e R s m args below meth c H locs cells slots Q (F0 m pc ls rest) :=
  va_getsN X.1 X.2.1 (X.E.2.1 i q hq).1 Y.2.2 X.2.2.2.1 (va_Nw.use rfl (X.E.1 _ hlink)) (fun _ h => h) hdg kk
theorem x_ti (X : Cx Γ p s m args meth c own cc nL ret w0) (Y : Wd Γ w0 s ws H locs) (i : Nat) {q : String × List Int32} (hq : STA[i]? = some q) {ix v : Int32} (hin : inb ix q.2.length = true) (hv : q.2.getD ix.toNatClampNeg 0 = v) (hdg : decode cc pc = .ok (.iaload, 1))
    (kk : W p l e R s m args below meth c H locs cells slots Q (F0 m (pc + 1) ls (.int v :: rest))) : W p l e R s m args below meth c H locs cells slots Q (F0 m pc ls (.int ix :: .ref (Γ.2.2 i) :: rest)) :=
  va_ti X.1 X.2.1 (X.E.2.1 i q hq).2 Y.2.2 (inb_in hin) (congrArg Value.int hv) hdg kk
theorem x_tlen (X : Cx Γ p s m args meth c own cc nL ret w0) (Y : Wd Γ w0 s ws H locs) (i : Nat) {q : String × List Int32} (hq : STA[i]? = some q) {v : Int32} (hv : Int32.ofNat q.2.length = v) (hdg : decode cc pc = .ok (.arraylength, 1))
    (kk : W p l e R s m args below meth c H locs cells slots Q (F0 m (pc + 1) ls (.int v :: rest))) : W p l e R s m args below meth c H locs cells slots Q (F0 m pc ls (.ref (Γ.2.2 i) :: rest)) :=
  va_tlen X.1 X.2.1 (X.E.2.1 i q hq).2 Y.2.2 hv hdg kk
def cpb (sp dp n : Int32) (n0 n1 : Nat) : Bool := decide (¬ sp < 0) && (decide (¬ dp < 0) && (decide (¬ n < 0) && (decide (sp.toNatClampNeg + n.toNatClampNeg ≤ n0) && decide (dp.toNatClampNeg + n.toNatClampNeg ≤ n1))))
theorem x_copy (X : Cx Γ p s m args meth c own cc nL ret w0) (Y : Wd Γ w0 s ws H locs) (hlink : Cond.methodLink own index arraycopyName ∈ GW) (hnat : Cond.native arraycopyName ∈ GW) (hstat : Cond.static arraycopyName ∈ GW) (hini : Cond.initialized "java/lang/System" ∈ GW) (q0 q1 : Nat) {a0 n0 n1 : Nat} {f g : Nat → Int32} (ha0 : ws[q0]? = some (a0, .inl (Γ.2.1 0, n0, .inl f))) (ha1 : ws[q1]? = some (a, .inl (Γ.2.1 0, n1, .inl g))) {sp dp n : Int32} (hb : cpb sp dp n n0 n1 = true)
    (hw : ws.set q1 (a, .inl (Γ.2.1 0, n1, .inl (va_cpy f g sp.toNatClampNeg dp.toNatClampNeg n.toNatClampNeg))) = ws') (hsize : ls.size = nL) (hframes : 1 ≤ R.frames) (hlocals : (rest.map fun v => v.category).sum + (nativeFrameWords "java/lang/System" "arraycopy" 5 + 11) ≤ R.locals) (hdg : decode cc pc = .ok (.invokestatic index, 3))
    (kk : ∀ (H1 : Heap) (locs1 : List Loc), Wd Γ w0 s ws' H1 locs1 → W p l e R s m args below meth c H1 locs1 cells slots Q (F0 m (pc + 3) ls rest)) : W p l e R s m args below meth c H locs cells slots Q (F0 m pc ls (.int n :: .int dp :: .ref a :: .int sp :: .ref a0 :: rest)) := by
  subst hw
  simp only [cpb, Bool.and_eq_true, decide_eq_true_eq] at hb
  obtain ⟨h1, h2, h3, h4, h5⟩ := hb
  exact va_copyi (ty := .int) X.1 X.2.1 (X.2.2.1.trans hsize.symm) X.2.2.2.1 (X.2.2.2.2.1 _ hlink) (X.2.2.2.2.1 _ hnat) (X.2.2.2.2.1 _ hstat) (X.2.2.2.2.1 _ hini) X.K Y.1 Y.2.1 Y.2.2 q0 q1 0 0 ha0 ha1 rfl rfl rfl h1 h2 h3 h4 h5 (fun _ _ => rfl) hframes hlocals hdg (fun H1 L g1 g2 g3 => kk H1 L ⟨g1, g2, g3⟩)
theorem x_aald (X : Cx Γ p s m args meth c own cc nL ret w0) (Y : Wd Γ w0 s ws H locs) (q0 t0 : Nat) {cA : ClassId} {C : String} {n : Nat} {f : Nat → Option Nat} (ha : ws[q0]? = some (a, .inl (cA, n, .inr (.inr (.inr (.inr f)))))) (ht : (TY Γ)[t0]? = some (cA, .object C)) {i : Int32} (hin : inb i n = true) {v : Value} (hv : va_rf (f i.toNatClampNeg) = v) (hdg : decode cc pc = .ok (.aaload, 1))
    (kk : W p l e R s m args below meth c H locs cells slots Q (F0 m (pc + 1) ls (v :: rest))) : W p l e R s m args below meth c H locs cells slots Q (F0 m pc ls (.int i :: .ref a :: rest)) := by
  subst hv
  exact va_aldq X.1 X.2.1 X.K Y.1 q0 t0 ha ht (inb_in hin) hdg kk
/-- nothing changes in what a callee was handed -/
theorem bkE (Y : Wd Γ w0 s ws H locs) (isC : List Nat) (hC : isC.map (fun i => ws[i]?) = wc.map some) : Bk Γ w0 s H wc wc ws := by
  have hF := va_free Y.2.1 Y.2.2 wA_hi isC hC
  refine ⟨hF, fun t H1 locs1 ht hB hk hS => ⟨fun k q hq => ?_, Y.2.1, hS⟩⟩
  obtain ⟨hP1, hK1, hD1⟩ := hB
  rw [ht] at hP1
  have h0 := Y.1 k q hq
  by_cases hin : ∃ (i : Nat) (e : va_E), wc[i]? = some (q.1, e)
  · obtain ⟨i, e, hi⟩ := hin
    have hlen : isC.length = wc.length := by
      have := congrArg List.length hC
      simpa using this
    have hi2 : i < isC.length := by rw [hlen]; exact (List.getElem?_eq_some_iff.mp hi).1
    have he : ws[isC[i]]? = some (q.1, e) := by
      have h1 := congrArg (fun z => z[i]?) hC
      simp only [List.getElem?_map, hi, Option.map_some] at h1
      rw [List.getElem?_eq_getElem hi2] at h1
      simpa using h1
    have hkk := Y.2.1.1 k isC[i] q (q.1, e) hq he rfl
    rw [← hkk, hq] at he
    have hqe : q = (q.1, e) := Option.some.inj he
    have h1 := hP1 i (q.1, e) hi
    rw [← hqe] at h1
    exact h1
  · exact h0.kept (hk q.1 h0.lt (fun h => h.elim (fun ⟨i, e, hi⟩ => hin ⟨i, e, hi⟩) (fun h2 => absurd h0.lt (Nat.not_lt.mpr h2))))
/-- super.m(..) -/
theorem r_SU {cC : ClassId} (X : Cx Γ p s m args meth c own cc nL ret w0) (hpre : ∀ U : State, U.heap = H → s.WarmedH U.vm → va_Pc (.ref b :: As) (Pcw Γ wc H.size) (Value.ref b :: As).toArray U) (hM : ∀ sz, Met l y (Cond.code y bs mL rt :: GW) rm (va_Pc (.ref b :: As) (Pcw Γ wc sz)) (Qc sz) mc ms (va_A wc sz)) (cw : va_CS R s args own index y bs mL rt (Cond.code y bs mL rt :: GW) rm mc ms n)
    (hat : ClassAt s C cC) (hrec : ∃ cell : Cell, H[b]? = some cell ∧ cell.vm.isStatics = false ∧ s.vm.findClass C = some cell.cls) (hn : As.length = n) (hsize : ls.size = nL) (hW : (rest.map fun v => v.category).sum ≤ 8) (hst : st0 = As.reverse ++ .ref b :: rest) (hdg : decode cc pc = .ok (.invokespecial index, 3)) (hf : cells + mc ≤ R.cells ∧ slots + ms ≤ R.slots) :
    va_Run p l e R s m args below meth c H locs cells slots mc ms (F0 m pc ls st0) rest (Qc H.size (Value.ref b :: As).toArray) (va_A wc H.size) :=
  va_runSU (g := F0 m pc ls st0) hat X.fix (hM H.size) cw ⟨pcw_blind, hrec, hpre⟩ rfl hn hsize hst (lv_room hW) hdg hf
theorem cw_SU (X : Cx Γ p s m args meth c own cc nL ret w0) (h1 : Cond.methodLink own index y ∈ GW) (h2 : Cond.sameMethod y.cls y.cls y.name y.desc ∈ GW) (h3 : Cond.superclass own y.cls ∈ GW) (h4 : Cond.instanceMethod y ∈ GW) (h5 : Cond.initialized y.cls ∈ GW) (h6 : Cond.code y bs mL rt ∈ GW) (hd : y.name ≠ "<init>" ∧ (parseMethodDescriptor y.desc).map (fun d => d.parameters.length) = some n) (hrc : rm.cells = mc) (hrs : rm.slots = ms) (hR : rm.frames + 1 ≤ R.frames ∧ 8 + (mL + 11) + rm.locals ≤ R.locals) :
    va_CS R s args own index y bs mL rt (Cond.code y bs mL rt :: GW) rm mc ms n :=
  va_cwSU n X.2.2.2.2.1 (gw_cons h1 (fun _ h => h) (gw_cons h2 (fun _ h => h) (gw_cons h3 (fun _ h => h) (gw_cons h4 (fun _ h => h) (gw_cons h5 (fun _ h => h) (gw_cons h6 (fun _ h => h) (gw_in (fun _ h => h)))))))) rfl hrc hrs hd hR
/-- super.m(..) of a method that the superclass has inherited -/
theorem r_SX {x : MethodName} {owner : String} {cC : ClassId} (X : Cx Γ p s m args meth c own cc nL ret w0) (hpre : ∀ U : State, U.heap = H → s.WarmedH U.vm → va_Pc (.ref b :: As) (Pcw Γ wc H.size) (Value.ref b :: As).toArray U) (hM : ∀ sz, Met l y (Cond.code y bs mL rt :: GW) rm (va_Pc (.ref b :: As) (Pcw Γ wc sz)) (Qc sz) mc ms (va_A wc sz))
    (hy : y = ⟨owner, x.name, x.desc⟩) (h1 : Cond.methodLink own index x ∈ GW) (h2 : Cond.sameMethod x.cls owner x.name x.desc ∈ GW) (h3 : Cond.superclass own x.cls ∈ GW) (h3b : Cond.superclass x.cls owner ∈ GW) (h4 : Cond.instanceMethod y ∈ GW) (h5 : Cond.initialized y.cls ∈ GW) (h6 : Cond.code y bs mL rt ∈ GW) (hno : x.name ≠ "<init>") (hpn : (parseMethodDescriptor y.desc).map (fun d => d.parameters.length) = some n) (hrc : rm.cells = mc) (hrs : rm.slots = ms) (hR : rm.frames + 1 ≤ R.frames ∧ 8 + (mL + 11) + rm.locals ≤ R.locals)
    (hat : ClassAt s C cC) (hrec : ∃ cell : Cell, H[b]? = some cell ∧ cell.vm.isStatics = false ∧ s.vm.findClass C = some cell.cls) (hn : As.length = n) (hsize : ls.size = nL) (hW : (rest.map fun v => v.category).sum ≤ 8) (hst : st0 = As.reverse ++ .ref b :: rest) (hdg : decode cc pc = .ok (.invokespecial index, 3)) (hf : cells + mc ≤ R.cells ∧ slots + ms ≤ R.slots) :
    va_Run p l e R s m args below meth c H locs cells slots mc ms (F0 m pc ls st0) rest (Qc H.size (Value.ref b :: As).toArray) (va_A wc H.size) := by
  have W5 : ∀ w ∈ GW, w.before args s = true := X.2.2.2.2.1
  have hG : GoodIn GW (Cond.code y bs mL rt :: GW) := gw_cons h6 (fun _ h => h) (gw_in (fun _ h => h))
  have hK : Back l R p e below s args y 3 8 (PreOf R mc ms (va_Pc (.ref b :: As) (Pcw Γ wc H.size))) (PostOf (Qc H.size) mc ms (va_A wc H.size)) := back_of (bytes := bs) (maxL := mL) (ret := rt) (hM H.size) pcw_blind hrc hrs hR.1 hR.2 (pay_in W5 hG) List.mem_cons_self (fun a' U hW => word_at hW (Or.inl (by first | rfl | simp [Cond.onTables, Cond.keeps, Cond.steady])) (W5 _ h5))
  obtain ⟨hx, hb, hml, ho, -⟩ := X.fix
  obtain ⟨cellB, hcB, hoB, hclB⟩ := hrec
  obtain ⟨hfc, kB, hkB, -⟩ := hat
  cases hfc.symm.trans hclB
  obtain ⟨mk, methM, hnamed, hmethM, hstM, habM⟩ := Cond.instanceMethod_spec (W5 _ h4)
  obtain ⟨methM', cM, hmethM', -, -, -, -, -, -, hsigM⟩ := Cond.code_spec hnamed (W5 _ h6)
  cases hmethM.symm.trans hmethM'
  obtain ⟨ps, dk, kp, hps, hdk, hkp, hsuper, -, -, hnid⟩ := Cond.superclass_spec ho (W5 _ h3)
  obtain ⟨ps2, dk2, kp2, hps2, hdk2, hkp2, hsuper2, -, -, hnid2⟩ := Cond.superclass_spec hps (W5 _ h3b)
  have hnm : s.methodNamed? ⟨owner, x.name, x.desc⟩ = some mk := by rw [← hy]; exact hnamed
  have hpm : ps2 = mk.cls := Option.some.inj (hps2.symm.trans (by have := findClass_of_methodNamed hnamed; rw [hy] at this; exact this))
  have hsz : 0 < s.vm.classes.size := Nat.lt_of_le_of_lt (Nat.zero_le _) (Array.getElem?_eq_some_iff.mp hdk2).1
  have hsub : s.vm.isSubclass ps mk.cls = true := by
    rw [← hpm]
    obtain ⟨z, hz⟩ : ∃ z, s.vm.classes.size = z + 1 := ⟨s.vm.classes.size - 1, by omega⟩
    simp [Vm.isSubclass, Vm.isSubclassAux, hz, hdk2, hsuper2]
  intro T hT X1
  have hlen : As.length = methM.sig.parameters.length := by
    have h9 := hpn
    rw [hsigM] at h9
    rw [hn]
    exact (Option.some.inj h9).symm
  obtain ⟨vm₁, X₁, hstep₁⟩ := X1.invokespecialUp hx ho (W5 _ h1) (W5 _ h2) hnm hmethM hstM habM hno hdk hnid hps hsuper hsub (a := b) (cell := cellB) (by rw [hT]; exact hcB)
    (fun z h => by rw [h] at hoB; cases hoB) hkB (g := F0 m pc ls st0) rfl (argsL := As) (rest := rest) hlen hst (by rw [hb]; exact hdg)
  obtain ⟨v, ⟨U', l2, c2, s2⟩, X', ⟨g', mk', t, L, e1, e2, hq, g1, hL, g2, g3⟩, hsteps⟩ := hK m meth c ⟨T.setVm vm₁, locs, cells, slots⟩ { F0 m pc ls st0 with stack := rest } (.invokespecial index) mk (Value.ref b :: As).toArray X₁ rfl (hsize.trans hml.symm) (by rw [hb]; exact hdg) (lv_room (m := m) (pc := pc) (ls := ls) (rest := rest) hW) (X₁.named hnamed) ⟨hf.1, hf.2, hpre (T.setVm vm₁) hT X₁.warmed⟩
  dsimp only [Pt.U, Pt.locs, Pt.cells, Pt.slots] at X' e1 e2 g1 g2 g3 hsteps
  subst g1; subst g2; subst g3
  exact ⟨v, (T.setVm vm₁).calling g' mk' (Value.ref b :: As).toArray, t, U', L, hT, X', hL, e1, e2, hq, fun target h => hstep₁ _ (by rw [doInvoke_state]; exact hsteps.trans h)⟩
/-- a method is called by its name in a class above -/
theorem r_U {x : MethodName} {owner : String} (X : Cx Γ p s m args meth c own cc nL ret w0) (hpre : ∀ U : State, U.heap = H → s.WarmedH U.vm → va_Pc (.ref b :: As) (Pcw Γ wc H.size) (Value.ref b :: As).toArray U) (hM : ∀ sz, Met l y (Cond.code y bs mL rt :: GW) rm (va_Pc (.ref b :: As) (Pcw Γ wc sz)) (Qc sz) mc ms (va_A wc sz)) (cw : va_CU R s args own C owner index x y bs mL rt (Cond.code y bs mL rt :: GW) rm mc ms n)
    (hrec : ∃ cell : Cell, H[b]? = some cell ∧ cell.vm.isStatics = false ∧ s.vm.findClass C = some cell.cls) (hn : As.length = n) (hsize : ls.size = nL) (hW : (rest.map fun v => v.category).sum ≤ 8) (hst : st0 = As.reverse ++ .ref b :: rest) (hdg : decode cc pc = .ok (.invokevirtual index, 3)) (hf : cells + mc ≤ R.cells ∧ slots + ms ≤ R.slots) :
    va_Run p l e R s m args below meth c H locs cells slots mc ms (F0 m pc ls st0) rest (Qc H.size (Value.ref b :: As).toArray) (va_A wc H.size) :=
  va_runU (g := F0 m pc ls st0) X.fix (hM H.size) cw ⟨pcw_blind, hrec, hpre⟩ rfl hn hsize hst (lv_room hW) hdg hf
theorem cw_O {x : MethodName} {owner : String} {b0 : ByteArray} {m0 : Nat} {r0 : Option FieldType} (X : Cx Γ p s m args meth c own cc nL ret w0) (h1 : Cond.methodLink own index x ∈ GW) (h2 : Cond.sameMethod x.cls owner x.name x.desc ∈ GW) (h3 : Cond.instanceMethod ⟨owner, x.name, x.desc⟩ ∈ GW) (h4 : Cond.selects C x y ∈ GW) (h5 : Cond.instanceMethod y ∈ GW) (h6 : Cond.initialized y.cls ∈ GW) (h7 : Cond.code y bs mL rt ∈ GW) (h8 : Cond.code ⟨owner, x.name, x.desc⟩ b0 m0 r0 ∈ GW) (hd : owner ≠ "java/lang/invoke/MethodHandle" ∧ owner ≠ "java/lang/invoke/VarHandle" ∧ (parseMethodDescriptor x.desc).map (fun d => d.parameters.length) = some n) (hrc : rm.cells = mc) (hrs : rm.slots = ms) (hR : rm.frames + 1 ≤ R.frames ∧ 8 + (mL + 11) + rm.locals ≤ R.locals) :
    va_CU R s args own C owner index x y bs mL rt (Cond.code y bs mL rt :: GW) rm mc ms n :=
  va_cwO n X.2.2.2.2.1 (gw_cons h1 (fun _ h => h) (gw_cons h2 (fun _ h => h) (gw_cons h3 (fun _ h => h) (gw_cons h4 (fun _ h => h) (gw_cons h5 (fun _ h => h) (gw_cons h6 (fun _ h => h) (gw_cons h7 (fun _ h => h) (gw_in (fun _ h => h))))))))) rfl hrc hrs h8 hd hR
end RwX
