/-! ROWS for constructors -/
section RwN
variable {p : Program} {l : Launch} {e : Env} {R : Room} {s : State} {m : MethodId} {args : Array Value} {below : List Frame} {meth : Method} {c : Code} {H : Heap} {locs : List Loc} {Q : State → Prop} {cells slots : Nat}
variable {Γ : Gm} {own : String} {cc : ByteArray} {nL : Nat} {ret : Option FieldType} {w0 w1 ws ws' wc wr : va_W} {pc : Nat} {ls : Array Slot} {st0 rest As av : List Value} {a b : Nat}
variable {y : MethodName} {bs : ByteArray} {mL index n : Nat} {rt : Option FieldType} {rm : Room} {C : String} {Qc : Nat → Array Value → State → Outcome → State → Prop} {mc ms : Nat}
theorem ra_inj {U : State} {a b : ClassId} {ty : FieldType} (h1 : va_RA U a ty) (h2 : va_RA U b ty) : a = b := by
  cases ty with
  | object C =>
    obtain ⟨k1, c1, -, -, -, e1⟩ := h1
    obtain ⟨k2, c2, -, -, -, e2⟩ := h2
    exact Option.some.inj (e1.symm.trans e2)
  | _ => exact Option.some.inj (h1.symm.trans h2)
theorem wd_perm (Y : Wd Γ w0 s ws H locs) (pm : List Nat) (hn : va_nd pm = true) (hp : pm.map (fun i => ws[i]?) = ws'.map some) : Wd Γ w0 s ws' H locs := ⟨Y.1.sub pm (fm_of_map hp), Y.2.1.sub pm hn hp, Y.2.2⟩
theorem x_newa {atype : ArrayType} {ty : FieldType} (X : Cx Γ p s m args meth c own cc nL ret w0) (Y : Wd Γ w0 s ws H locs) (harr : Cond.arrayClass (newarray.typeOf atype) ∈ GW) (hty : newarray.typeOf atype = ty) (t0 : Nat) (ht : (TY Γ)[t0]? = some (Γ.2.1 t0, ty)) {n : Int32} {N : Nat} (a0 : vp_A) (ha : ∀ cA : ClassId, vp_cell cA a0 = arrV cA N (fun _ => defaultValue ty)) (hn : ¬ n < 0) (hN : n.toNatClampNeg = N) (hbytes : N * componentBytes ty ≤ 536870912) (hcells : cells + 1 ≤ R.cells) (hslots : slots + N ≤ R.slots) (hdg : decode cc pc = .ok (.newarray atype, 2))
    (kk : ∀ (q : Nat) (H1 : Heap), Wd Γ w0 s (ws ++ [(q, .inl (Γ.2.1 t0, a0))]) H1 locs → W p l e R s m args below meth c H1 locs (cells + 1) (slots + N) Q (F0 m (pc + 2) ls (.ref q :: rest))) : W p l e R s m args below meth c H locs cells slots Q (F0 m pc ls (.int n :: rest)) := by
  refine va_newa X.1 X.2.1 (X.2.2.2.2.1 _ harr) hty X.K Y.1 Y.2.1 Y.2.2 wA_hi ha hn hN hbytes hcells hslots hdg (fun q cA H1 hK hP hD hS => ?_)
  have h1 := (hK.2 5 (cA, ty) rfl).2
  have h2 := (X.K.2 t0 _ ht).2
  have he : cA = Γ.2.1 t0 := ra_inj h1 h2
  subst he
  exact kk q H1 ⟨hP, hD, hS⟩
theorem x_newq {C : String} (X : Cx Γ p s m args meth c own cc nL ret w0) (Y : Wd Γ w0 s ws H locs) (hlink : Cond.classLink own index C ∈ GW) (hover : Cond.arrayOver (.object C) ∈ NW) (t0 : Nat) (ht : (TY Γ)[t0]? = some (Γ.2.1 t0, .object C)) {n : Int32} {N : Nat} (hn : ¬ n < 0) (hN : n.toNatClampNeg = N) (hbytes : N * 4 ≤ 536870912) (hcells : cells + 1 ≤ R.cells) (hslots : slots + N ≤ R.slots) (hdg : decode cc pc = .ok (.anewarray index, 3))
    (kk : ∀ (q : Nat) (H1 : Heap), Wd Γ w0 s (ws ++ [(q, .inl (Γ.2.1 t0, N, .inr (.inr (.inr (.inr (fun _ => none))))))]) H1 locs → W p l e R s m args below meth c H1 locs (cells + 1) (slots + N) Q (F0 m (pc + 3) ls (.ref q :: rest))) : W p l e R s m args below meth c H locs cells slots Q (F0 m pc ls (.int n :: rest)) := by
  refine va_newq X.1 X.2.1 X.2.2.2.1 (X.2.2.2.2.1 _ hlink) (X.E.1 _ hover) X.K Y.1 Y.2.1 Y.2.2 wA_hi hn hN hbytes hcells hslots hdg (fun q cA H1 hK hP hD hS => ?_)
  have h1 := (hK.2 5 (cA, .object C) rfl).2
  have h2 := (X.K.2 t0 _ ht).2
  have he : cA = Γ.2.1 t0 := ra_inj h1 h2
  subst he
  exact kk q H1 ⟨hP, hD, hS⟩
theorem x_new {C : String} {T : u_T} {N ci : Nat} (X : Cx Γ p s m args meth c own cc nL ret w0) (Y : Wd Γ w0 s ws H locs) (hin : ∀ w ∈ u_ws C T N, w ∈ GW) (ty : Nat → FieldType) (hty : ∀ k, k < N → parseFieldDescriptor (T k).2.2.1 = some (ty k)) (hcl : Cond.classLink own index C ∈ GW) (hinst : Cond.instantiable C N ∈ GW) (hini : Cond.initialized C ∈ GW) (hc : vwCl[ci]? = some (C, T, N)) {fs : List Value} (hfs : ∀ j, j < N → defaultValue (ty j) = vp_V fs j) (hcells : cells + 1 ≤ R.cells) (hslots : slots + N ≤ R.slots) (hdg : decode cc pc = .ok (.new index, 3))
    (kk : ∀ (q : Nat) (H1 : Heap), Wd Γ w0 s (ws ++ [(q, .inr (ci, fs))]) H1 locs → W p l e R s m args below meth c H1 locs (cells + 1) (slots + N) Q (F0 m (pc + 3) ls (.ref q :: rest))) : W p l e R s m args below meth c H locs cells slots Q (F0 m pc ls rest) :=
  va_new X.1 X.2.1 X.2.2.2.2.1 hin ty hty X.2.2.2.1 (X.2.2.2.2.1 _ hcl) (X.2.2.2.2.1 _ hinst) (X.2.2.2.2.1 _ hini) X.K Y.1 Y.2.1 Y.2.2 wA_hi hc hfs hcells hslots hdg (fun q H1 hP hD hS => kk q H1 ⟨hP, hD, hS⟩)
theorem x_putF (X : Cx Γ p s m args meth c own cc nL ret w0) (Y : Wd Γ w0 s ws H locs) {C : String} {T : u_T} {N ci index : Nat} (hin : ∀ w ∈ u_ws C T N, w ∈ GW) (ty0 : Nat → FieldType) (hty : ∀ k, k < N → parseFieldDescriptor (T k).2.2.1 = some (ty0 k)) (hnm : ∀ a, a < N → ∀ b, b < N → a ≠ b → (T a).2.1 ≠ (T b).2.1) (hc : vwCl[ci]? = some (C, T, N)) (k : Nat) (hk : k < N) (hd : (T k).1 = C) (ho : own = C) (hlink : Cond.fieldLink own index C (T k).2.1 (T k).2.2.1 ∈ GW) (hfin : (T k).2.2.2 = true) (hnmi : meth.name = "<init>") (q0 : Nat) {fs : List Value} (he : ws[q0]? = some (a, .inr (ci, fs))) {v : Value} (hn : narrow (ty0 k) v = v) (hfit : fits (ty0 k) v = true) (hl : k < fs.length) (hw : ws.set q0 (a, .inr (ci, fs.set k v)) = ws') (hdg : decode cc pc = .ok (.putfield index, 3))
    (kk : ∀ (H1 : Heap) (locs1 : List Loc), Wd Γ w0 s ws' H1 locs1 → W p l e R s m args below meth c H1 locs1 cells slots Q (F0 m (pc + 3) ls rest)) : W p l e R s m args below meth c H locs cells slots Q (F0 m pc ls (v :: .ref a :: rest)) := by
  subst hw
  exact va_putF X.1 X.2.1 X.2.2.2.2.1 hin ty0 hty hnm X.2.2.2.1 X.K Y.1 Y.2.1 Y.2.2 q0 he hc k hk (X.2.2.2.2.1 _ hlink) (fun x h => by rw [← hd]; exact h) hfin hnmi (hd.trans ho.symm) (hty k hk) hn hfit hl hdg (fun H1 L h1 h2 h3 => kk H1 L ⟨h1, h2, h3⟩)
theorem x_aast (X : Cx Γ p s m args meth c own cc nL ret w0) (Y : Wd Γ w0 s ws H locs) (q0 t0 qk ci : Nat) {cA : ClassId} {r : vw_C} {n v : Nat} {vs : List Value} {f : Nat → Option Nat} (ha : ws[q0]? = some (a, .inl (cA, n, .inr (.inr (.inr (.inr f)))))) (ht : (TY Γ)[t0]? = some (cA, .object r.1)) (hv : ws[qk]? = some (v, .inr (ci, vs))) (hc : vwCl[ci]? = some r) {i : Int32} (hin : inb i n = true) (hw : ws.set q0 (a, .inl (cA, n, .inr (.inr (.inr (.inr (va_up f i.toNatClampNeg (some v))))))) = ws') (hdg : decode cc pc = .ok (.aastore, 1))
    (kk : ∀ (H1 : Heap) (locs1 : List Loc), Wd Γ w0 s ws' H1 locs1 → W p l e R s m args below meth c H1 locs1 cells slots Q (F0 m (pc + 1) ls rest)) : W p l e R s m args below meth c H locs cells slots Q (F0 m pc ls (.ref v :: .int i :: .ref a :: rest)) := by
  subst hw
  exact va_astq X.1 X.2.1 X.K Y.1 Y.2.1 Y.2.2 q0 t0 qk ci ha ht hv hc (inb_in hin) hdg (fun H1 L h1 h2 h3 => kk H1 L ⟨h1, h2, h3⟩)
theorem x_aastO {E : String} (X : Cx Γ p s m args meth c own cc nL ret w0) (Y : Wd Γ w0 s ws H locs) (q0 t0 qk ci : Nat) {cA : ClassId} {r : vw_C} {n v : Nat} {vs : List Value} {f : Nat → Option Nat} (ha : ws[q0]? = some (a, .inl (cA, n, .inr (.inr (.inr (.inr f)))))) (ht : (TY Γ)[t0]? = some (cA, .object E)) (hca : Cond.castable r.1 E ∈ NW) (hv : ws[qk]? = some (v, .inr (ci, vs))) (hc : vwCl[ci]? = some r) {i : Int32} (hin : inb i n = true) (hw : ws.set q0 (a, .inl (cA, n, .inr (.inr (.inr (.inr (va_up f i.toNatClampNeg (some v))))))) = ws') (hdg : decode cc pc = .ok (.aastore, 1))
    (kk : ∀ (H1 : Heap) (locs1 : List Loc), Wd Γ w0 s ws' H1 locs1 → W p l e R s m args below meth c H1 locs1 cells slots Q (F0 m (pc + 1) ls rest)) : W p l e R s m args below meth c H locs cells slots Q (F0 m pc ls (.ref v :: .int i :: .ref a :: rest)) := by
  subst hw
  exact va_astqO X.1 X.2.1 X.K Y.1 Y.2.1 Y.2.2 q0 t0 qk ci ha ht (X.E.1 _ hca) hv hc (inb_in hin) hdg (fun H1 L h1 h2 h3 => kk H1 L ⟨h1, h2, h3⟩)
theorem x_obj (X : Cx Γ p s m args meth c own cc nL ret w0) (h1 : Cond.methodLink own index objectInit ∈ GW) (h2 : Cond.instanceMethod objectInit ∈ GW) (h3 : Cond.code objectInit ⟨#[0xb1]⟩ 1 none ∈ GW) (hsize : ls.size = nL) (hfr : 1 ≤ R.frames) (hlo : 12 ≤ R.locals) (hdg : decode cc pc = .ok (.invokespecial index, 3))
    (kk : W p l e R s m args below meth c H locs cells slots Q (F0 m (pc + 3) ls [])) : W p l e R s m args below meth c H locs cells slots Q (F0 m pc ls [.ref a]) :=
  W.objInit (g := F0 m pc ls [.ref a]) X.1 X.2.1 X.2.2.2.1 (X.2.2.2.2.1 _ h1) (X.2.2.2.2.1 _ h2) (X.2.2.2.2.1 _ h3) rfl (hsize.trans X.2.2.1.symm) rfl hdg hfr hlo kk
/-- a constructor's end: the world by its addresses -/
def Bn {α : Type} (Γ : Gm) (w0 : va_W) (Wf : α → va_W) (sz : Nat) (A : α) (t : State) : Prop := va_P Γ.1 vwCl (Wf A) t.heap ∧ va_K Γ.1 vwCl (TY Γ) t ∧ va_D (va_A w0 sz) (Wf A)
abbrev QcN {α : Type} (Γ : Gm) (w0 : va_W) (post : α → Prop) (Wf : α → va_W) (sz : Nat) : Array Value → State → Outcome → State → Prop := va_Qv post (Bn Γ w0 Wf sz) (va_A w0 sz)
def CN {α : Type} (l : Launch) (Γ : Gm) (y : MethodName) (ws : List Cond) (rm : Room) (av : List Value) (w0 : va_W) (post : α → Prop) (Wf : α → va_W) (mc ms : Nat) : Prop := ∀ sz, Met l y ws rm (va_Pc av (Pcw Γ w0 sz)) (QcN Γ w0 post Wf sz) mc ms (va_A w0 sz)
theorem x_nret {α : Type} {post : α → Prop} {Wf : α → va_W} (A : α) (X : Cx Γ p s m args meth c own cc nL none w0) (hA : post A) (Y : Wd Γ w0 s (Wf A) H locs) (hdg : decode cc pc = .ok (.return_, 1)) : W p l e R s m args below meth c H locs cells slots (MQ below (QcN Γ w0 post Wf s.heap.size) args s cells slots (va_A w0 s.heap.size)) (F0 m pc ls []) :=
  W.vret X.1 X.2.1 X.2.2.2.2.2.1 (fun t ht hW => ⟨⟨A, rfl, hA, by rw [ht]; exact Y.1, va_K.moved hW.alike X.K, Y.2.1⟩, Y.2.2.F ht⟩) Y.2.2.2.2 hdg X.2.2.2.2.2.2.1
theorem r_I (X : Cx Γ p s m args meth c own cc nL ret w0) (hpre : ∀ U : State, U.heap = H → s.WarmedH U.vm → va_Pc (.ref b :: As) (Pcw Γ wc H.size) (Value.ref b :: As).toArray U) (hM : ∀ sz, Met l y (Cond.code y bs mL none :: GW) rm (va_Pc (.ref b :: As) (Pcw Γ wc sz)) (Qc sz) mc ms (va_A wc sz))
    (h1 : Cond.methodLink own index y ∈ GW) (h2 : Cond.instanceMethod y ∈ GW) (h4 : Cond.initialized y.cls ∈ GW) (h5 : Cond.code y bs mL none ∈ GW) (hy : y.name = "<init>") (hd : y.cls ≠ "java/lang/invoke/MethodHandle" ∧ y.cls ≠ "java/lang/invoke/VarHandle" ∧ (parseMethodDescriptor y.desc).map (fun d => d.parameters.length) = some n) (hrc : rm.cells = mc) (hrs : rm.slots = ms) (hR : rm.frames + 1 ≤ R.frames ∧ 8 + (mL + 11) + rm.locals ≤ R.locals)
    (hn : As.length = n) (hsize : ls.size = nL) (hW : (rest.map fun v => v.category).sum ≤ 8) (hst : st0 = As.reverse ++ .ref b :: rest) (hdg : decode cc pc = .ok (.invokespecial index, 3)) (hf : cells + mc ≤ R.cells ∧ slots + ms ≤ R.slots) :
    va_Run p l e R s m args below meth c H locs cells slots mc ms (F0 m pc ls st0) rest (Qc H.size (Value.ref b :: As).toArray) (va_A wc H.size) :=
  va_runI (g := F0 m pc ls st0) X.fix (hM H.size) (cwI n X.2.2.2.2.1 (gw_cons h5 (fun _ h => h) (gw_in (fun _ h => h))) rfl hrc hrs (X.2.2.2.2.1 _ h4) (X.2.2.2.2.1 _ h1) (X.2.2.2.2.1 _ h2) hy hd hR) ⟨pcw_blind, hpre⟩ rfl hn hsize hst (lv_room hW) hdg hf
theorem r_IN {host : String} (X : Cx Γ p s m args meth c own cc nL ret w0) (hpre : ∀ U : State, U.heap = H → s.WarmedH U.vm → va_Pc (.ref b :: As) (Pcw Γ wc H.size) (Value.ref b :: As).toArray U) (hM : ∀ sz, Met l y (Cond.code y bs mL none :: GW) rm (va_Pc (.ref b :: As) (Pcw Γ wc sz)) (Qc sz) mc ms (va_A wc sz))
    (h1 : Cond.methodLinkNest own index y host ∈ NW) (h2 : Cond.instanceMethod y ∈ GW) (h4 : Cond.initialized y.cls ∈ GW) (h5 : Cond.code y bs mL none ∈ GW) (hy : y.name = "<init>") (hd : y.cls ≠ "java/lang/invoke/MethodHandle" ∧ y.cls ≠ "java/lang/invoke/VarHandle" ∧ (parseMethodDescriptor y.desc).map (fun d => d.parameters.length) = some n) (hrc : rm.cells = mc) (hrs : rm.slots = ms) (hR : rm.frames + 1 ≤ R.frames ∧ 8 + (mL + 11) + rm.locals ≤ R.locals)
    (hn : As.length = n) (hsize : ls.size = nL) (hW : (rest.map fun v => v.category).sum ≤ 8) (hst : st0 = As.reverse ++ .ref b :: rest) (hdg : decode cc pc = .ok (.invokespecial index, 3)) (hf : cells + mc ≤ R.cells ∧ slots + ms ≤ R.slots) :
    va_Run p l e R s m args below meth c H locs cells slots mc ms (F0 m pc ls st0) rest (Qc H.size (Value.ref b :: As).toArray) (va_A wc H.size) :=
  va_runIN (g := F0 m pc ls st0) X.fix (hM H.size) ⟨va_cnB n X.2.2.2.2.1 (gw_cons h5 (fun _ h => h) (gw_in (fun _ h => h))) rfl hrc hrs (X.E.1 _ h1) (X.2.2.2.2.1 _ h4) hd hR, hy, X.2.2.2.2.1 _ h2⟩ ⟨pcw_blind, hpre⟩ rfl hn hsize hst (lv_room hW) hdg hf
theorem t_n {α : Type} {post : α → Prop} {Wf : α → va_W} {a0 : Array Value} (Y : Wd Γ w0 s ws H locs) (isC isR : List Nat) (hC : isC.map (fun i => ws[i]?) = wc.map some) (hR : isR.map (fun i => ws[i]?) = wr.map some) (hnR : va_nd isR = true) (hdis : ∀ i ∈ isR, i ∉ isC) (hr : va_Run p l e R s m args below meth c H locs cells slots mc ms (F0 m pc ls st0) rest (QcN Γ wc post Wf H.size a0) (va_A wc H.size))
    (kk : ∀ (A : α) (H1 : Heap) (locs1 : List Loc), post A → Wd Γ w0 s (wr ++ Wf A) H1 locs1 → W p l e R s m args below meth c H1 locs1 (cells + mc) (slots + ms) Q (F0 m (pc + 3) ls rest)) : W p l e R s m args below meth c H locs cells slots Q (F0 m pc ls st0) := by
  have hF := va_free Y.2.1 Y.2.2 wA_hi isC hC
  refine va_callv hr Y.2.2 (fun q _ h => hF q h) hF (fun u t H1 locs1 ht hvm hw hB hz hk hS => ?_)
  obtain ⟨hP1, hK1, hD1⟩ := hB
  rw [ht] at hP1
  obtain ⟨hP, hD⟩ := va_join (wr := wr) (w1 := Wf u) Y.1 Y.2.1 isC isR hC hR hnR hdis hk hF hP1 hD1
  exact kk u H1 locs1 hw ⟨hP, hD, hS⟩
end RwN
