/-! CALLS over the contract's form -/
theorem fm_of_map {α β : Type} {f : α → Option β} : ∀ {is : List α} {wc : List β}, is.map f = wc.map some → is.filterMap f = wc
  | [], [], _ => rfl
  | [], _ :: _, h => by simp at h
  | _ :: _, [], h => by simp at h
  | i :: is, c :: wc, h => by
    simp only [List.map_cons, List.cons.injEq] at h
    rw [List.filterMap_cons, h.1]
    exact congrArg (c :: ·) (fm_of_map h.2)
theorem wA_hi {w0 : va_W} {sz : Nat} : ∀ q, sz ≤ q → va_A w0 sz q := fun _ h => Or.inr h
section Cl
variable {p : Program} {l : Launch} {e : Env} {R : Room} {s : State} {m : MethodId} {args : Array Value} {below : List Frame} {meth : Method} {c : Code} {H : Heap} {locs : List Loc} {Q : State → Prop} {cells slots : Nat}
variable {Γ : Gm} {own : String} {cc : ByteArray} {nL : Nat} {ret : Option FieldType} {w0 w1 ws ws' wc wr : va_W} {pc : Nat} {ls : Array Slot} {st0 rest As av : List Value} {a b : Nat}
variable {y : MethodName} {bs : ByteArray} {mL index n : Nat} {rt : Option FieldType} {rm : Room} {C : String} {Qc : Nat → Array Value → State → Outcome → State → Prop} {mc ms : Nat}
/-- what a callee asks, of a part of the world, of all of it, of none -/
theorem c_pre (X : Cx Γ p s m args meth c own cc nL ret w0) (Y : Wd Γ w0 s ws H locs) (isC : List Nat) (hC : isC.map (fun i => ws[i]?) = wc.map some) (hnC : va_nd isC = true) : ∀ U : State, U.heap = H → s.WarmedH U.vm → va_Pc av (Pcw Γ wc H.size) av.toArray U := by
  intro U hU hW
  have hs := fm_of_map hC
  exact ⟨rfl, by rw [hU], by rw [hU]; exact Y.1.sub isC hs, va_K.moved hW.alike X.K, (Y.2.1.sub isC hnC hC).weaken (fun _ _ _ _ => trivial), X.E.at Y.2.2 (va_free Y.2.1 Y.2.2 wA_hi isC hC) hU hW⟩
theorem fr_S (Y : Wd Γ w0 s ws H locs) : ∀ q, va_A ws H.size q → va_A w0 s.heap.size q := fun q h => h.elim (fun ⟨k, e, hk⟩ => Y.2.1.2 k (q, e) hk) (fun h => Or.inr (Nat.le_trans Y.2.2.1 h))
theorem fr_0 (Y : Wd Γ w0 s ws H locs) : ∀ q, va_A [] H.size q → va_A w0 s.heap.size q := fun q h => h.elim (fun ⟨k, e, hk⟩ => by simp at hk) (fun h => Or.inr (Nat.le_trans Y.2.2.1 h))
theorem c_preS (X : Cx Γ p s m args meth c own cc nL ret w0) (Y : Wd Γ w0 s ws H locs) : ∀ U : State, U.heap = H → s.WarmedH U.vm → va_Pc av (Pcw Γ ws H.size) av.toArray U := by
  intro U hU hW
  exact ⟨rfl, by rw [hU], by rw [hU]; exact Y.1, va_K.moved hW.alike X.K, Y.2.1.weaken (fun _ _ _ _ => trivial), X.E.at Y.2.2 (fr_S Y) hU hW⟩
theorem c_pre0 (X : Cx Γ p s m args meth c own cc nL ret w0) (Y : Wd Γ w0 s ws H locs) : ∀ U : State, U.heap = H → s.WarmedH U.vm → va_Pc av (Pcw Γ [] H.size) av.toArray U := by
  intro U hU hW
  exact ⟨rfl, by rw [hU], fun k q h => by simp at h, va_K.moved hW.alike X.K, ⟨fun i j p q h => by simp at h, fun k q h => by simp at h⟩, X.E.at Y.2.2 (fr_0 Y) hU hW⟩
/-- what comes back -/
def Bk (Γ : Gm) (w0 : va_W) (s : State) (H : Heap) (wc w1 ws' : va_W) : Prop := (∀ q, va_A wc H.size q → va_A w0 s.heap.size q) ∧ ∀ (t : State) (H1 : Heap) (locs1 : List Loc), t.heap = H1 → Bw Γ wc w1 H.size () t → (∀ q : Nat, q < H.size → ¬ va_A wc H.size q → H1[q]? = H[q]?) → va_S (va_A w0 s.heap.size) s.heap H1 locs1 → Wd Γ w0 s ws' H1 locs1
theorem bk (Y : Wd Γ w0 s ws H locs) (isC isR pm : List Nat) (hC : isC.map (fun i => ws[i]?) = wc.map some) (hR : isR.map (fun i => ws[i]?) = wr.map some) (hnR : va_nd isR = true) (hdis : ∀ i ∈ isR, i ∉ isC) (hnp : va_nd pm = true) (hp : pm.map (fun i => (wr ++ w1)[i]?) = ws'.map some) : Bk Γ w0 s H wc w1 ws' := by
  have hF := va_free Y.2.1 Y.2.2 wA_hi isC hC
  refine ⟨hF, fun t H1 locs1 ht hB hk hS => ?_⟩
  obtain ⟨hP1, hK1, hD1⟩ := hB
  rw [ht] at hP1
  obtain ⟨hP, hD⟩ := va_join (wr := wr) (w1 := w1) Y.1 Y.2.1 isC isR hC hR hnR hdis hk hF hP1 hD1
  exact ⟨hP.sub pm (fm_of_map hp), hD.sub pm hnp hp, hS⟩
theorem bkS (Y : Wd Γ w0 s ws H locs) : Bk Γ w0 s H ws w1 w1 := by
  refine ⟨fr_S Y, fun t H1 locs1 ht hB hk hS => ?_⟩
  obtain ⟨hP1, hK1, hD1⟩ := hB
  rw [ht] at hP1
  exact ⟨hP1, hD1.weaken (fun _ q _ h => fr_S Y _ h), hS⟩
theorem bk0 (Y : Wd Γ w0 s ws H locs) : Bk Γ w0 s H [] [] ws := by
  refine ⟨fr_0 Y, fun t H1 locs1 ht hB hk hS => ⟨fun k q hq => ?_, Y.2.1, hS⟩⟩
  have h0 := Y.1 k q hq
  exact h0.kept (hk q.1 h0.lt (fun h => h.elim (fun ⟨k, e, hk⟩ => by simp at hk) (fun h2 => absurd h0.lt (Nat.not_lt.mpr h2))))
/-- an own method is called on an object -/
theorem r_V (X : Cx Γ p s m args meth c own cc nL ret w0) (hpre : ∀ U : State, U.heap = H → s.WarmedH U.vm → va_Pc (.ref b :: As) (Pcw Γ wc H.size) (Value.ref b :: As).toArray U) (hM : ∀ sz, Met l y (Cond.code y bs mL rt :: GW) rm (va_Pc (.ref b :: As) (Pcw Γ wc sz)) (Qc sz) mc ms (va_A wc sz)) (cw : CallW R s args own C index y bs mL rt (Cond.code y bs mL rt :: GW) rm mc ms n)
    (hrec : ∃ cell : Cell, H[b]? = some cell ∧ cell.vm.isStatics = false ∧ s.vm.findClass C = some cell.cls) (hn : As.length = n) (hsize : ls.size = nL) (hW : (rest.map fun v => v.category).sum ≤ 8) (hst : st0 = As.reverse ++ .ref b :: rest) (hdg : decode cc pc = .ok (.invokevirtual index, 3)) (hf : cells + mc ≤ R.cells ∧ slots + ms ≤ R.slots) :
    va_Run p l e R s m args below meth c H locs cells slots mc ms (F0 m pc ls st0) rest (Qc H.size (Value.ref b :: As).toArray) (va_A wc H.size) :=
  va_runV (g := F0 m pc ls st0) X.fix (hM H.size) cw ⟨pcw_blind, hrec, hpre⟩ rfl hn hsize hst (lv_room hW) hdg hf
theorem r_VN {host : String} (X : Cx Γ p s m args meth c own cc nL ret w0) (hpre : ∀ U : State, U.heap = H → s.WarmedH U.vm → va_Pc (.ref b :: As) (Pcw Γ wc H.size) (Value.ref b :: As).toArray U) (hM : ∀ sz, Met l y (Cond.code y bs mL rt :: GW) rm (va_Pc (.ref b :: As) (Pcw Γ wc sz)) (Qc sz) mc ms (va_A wc sz)) (cw : va_CN R s args own index y host bs mL rt (Cond.code y bs mL rt :: GW) rm mc ms n ∧ (Cond.instanceMethod y).before args s = true ∧ (Cond.selects C y y).before args s = true)
    (hrec : ∃ cell : Cell, H[b]? = some cell ∧ cell.vm.isStatics = false ∧ s.vm.findClass C = some cell.cls) (hn : As.length = n) (hsize : ls.size = nL) (hW : (rest.map fun v => v.category).sum ≤ 8) (hst : st0 = As.reverse ++ .ref b :: rest) (hdg : decode cc pc = .ok (.invokevirtual index, 3)) (hf : cells + mc ≤ R.cells ∧ slots + ms ≤ R.slots) :
    va_Run p l e R s m args below meth c H locs cells slots mc ms (F0 m pc ls st0) rest (Qc H.size (Value.ref b :: As).toArray) (va_A wc H.size) :=
  va_runVN (g := F0 m pc ls st0) X.fix (hM H.size) cw ⟨pcw_blind, hrec, hpre⟩ rfl hn hsize hst (lv_room hW) hdg hf
theorem r_S (X : Cx Γ p s m args meth c own cc nL ret w0) (hpre : ∀ U : State, U.heap = H → s.WarmedH U.vm → va_Pc As (Pcw Γ wc H.size) As.toArray U) (hM : ∀ sz, Met l y (Cond.code y bs mL rt :: GW) rm (va_Pc As (Pcw Γ wc sz)) (Qc sz) mc ms (va_A wc sz)) (cw : CallB R s args own index y bs mL rt (Cond.code y bs mL rt :: GW) rm mc ms n ∧ (Cond.static y).before args s = true)
    (hn : As.length = n) (hsize : ls.size = nL) (hW : (rest.map fun v => v.category).sum ≤ 8) (hst : st0 = As.reverse ++ rest) (hdg : decode cc pc = .ok (.invokestatic index, 3)) (hf : cells + mc ≤ R.cells ∧ slots + ms ≤ R.slots) :
    va_Run p l e R s m args below meth c H locs cells slots mc ms (F0 m pc ls st0) rest (Qc H.size As.toArray) (va_A wc H.size) :=
  va_runS (g := F0 m pc ls st0) X.fix (hM H.size) cw ⟨pcw_blind, hpre⟩ rfl hn hsize hst (lv_room hW) hdg hf
theorem r_SN {host : String} (X : Cx Γ p s m args meth c own cc nL ret w0) (hpre : ∀ U : State, U.heap = H → s.WarmedH U.vm → va_Pc As (Pcw Γ wc H.size) As.toArray U) (hM : ∀ sz, Met l y (Cond.code y bs mL rt :: GW) rm (va_Pc As (Pcw Γ wc sz)) (Qc sz) mc ms (va_A wc sz)) (cw : va_CN R s args own index y host bs mL rt (Cond.code y bs mL rt :: GW) rm mc ms n ∧ (Cond.static y).before args s = true ∧ True)
    (hn : As.length = n) (hsize : ls.size = nL) (hW : (rest.map fun v => v.category).sum ≤ 8) (hst : st0 = As.reverse ++ rest) (hdg : decode cc pc = .ok (.invokestatic index, 3)) (hf : cells + mc ≤ R.cells ∧ slots + ms ≤ R.slots) :
    va_Run p l e R s m args below meth c H locs cells slots mc ms (F0 m pc ls st0) rest (Qc H.size As.toArray) (va_A wc H.size) :=
  va_runSN (g := F0 m pc ls st0) X.fix (hM H.size) cw ⟨pcw_blind, hpre⟩ rfl hn hsize hst (lv_room hW) hdg hf
/-- the callee's words among ours -/
theorem cw_V (X : Cx Γ p s m args meth c own cc nL ret w0) (h1 : Cond.methodLink own index y ∈ GW) (h2 : Cond.instanceMethod y ∈ GW) (h3 : Cond.selects C y y ∈ GW) (h4 : Cond.initialized C ∈ GW) (h5 : Cond.code y bs mL rt ∈ GW) (hd : y.cls = C ∧ y.cls ≠ "java/lang/invoke/MethodHandle" ∧ y.cls ≠ "java/lang/invoke/VarHandle" ∧ (parseMethodDescriptor y.desc).map (fun d => d.parameters.length) = some n) (hrc : rm.cells = mc) (hrs : rm.slots = ms) (hR : rm.frames + 1 ≤ R.frames ∧ 8 + (mL + 11) + rm.locals ≤ R.locals) :
    CallW R s args own C index y bs mL rt (Cond.code y bs mL rt :: GW) rm mc ms n :=
  cwV n X.2.2.2.2.1 (gw_cons h1 (fun _ h => h) (gw_cons h2 (fun _ h => h) (gw_cons h3 (fun _ h => h) (gw_cons h4 (fun _ h => h) (gw_cons h5 (fun _ h => h) (gw_in (fun _ h => h))))))) rfl hrc hrs hd hR
theorem cw_S (X : Cx Γ p s m args meth c own cc nL ret w0) (h1 : Cond.methodLink own index y ∈ GW) (h2 : Cond.static y ∈ GW) (h4 : Cond.initialized y.cls ∈ GW) (h5 : Cond.code y bs mL rt ∈ GW) (hd : y.cls ≠ "java/lang/invoke/MethodHandle" ∧ y.cls ≠ "java/lang/invoke/VarHandle" ∧ (parseMethodDescriptor y.desc).map (fun d => d.parameters.length) = some n) (hrc : rm.cells = mc) (hrs : rm.slots = ms) (hR : rm.frames + 1 ≤ R.frames ∧ 8 + (mL + 11) + rm.locals ≤ R.locals) :
    CallB R s args own index y bs mL rt (Cond.code y bs mL rt :: GW) rm mc ms n ∧ (Cond.static y).before args s = true :=
  va_cwS n X.2.2.2.2.1 (gw_cons h1 (fun _ h => h) (gw_cons h2 (fun _ h => h) (gw_cons h4 (fun _ h => h) (gw_cons h5 (fun _ h => h) (gw_in (fun _ h => h)))))) rfl hrc hrs hd hR
theorem cw_SN {host : String} (X : Cx Γ p s m args meth c own cc nL ret w0) (h1 : Cond.methodLinkNest own index y host ∈ NW) (h2 : Cond.static y ∈ GW) (h4 : Cond.initialized y.cls ∈ GW) (h5 : Cond.code y bs mL rt ∈ GW) (hd : y.cls ≠ "java/lang/invoke/MethodHandle" ∧ y.cls ≠ "java/lang/invoke/VarHandle" ∧ (parseMethodDescriptor y.desc).map (fun d => d.parameters.length) = some n) (hrc : rm.cells = mc) (hrs : rm.slots = ms) (hR : rm.frames + 1 ≤ R.frames ∧ 8 + (mL + 11) + rm.locals ≤ R.locals) :
    va_CN R s args own index y host bs mL rt (Cond.code y bs mL rt :: GW) rm mc ms n ∧ (Cond.static y).before args s = true ∧ True :=
  ⟨va_cnB n X.2.2.2.2.1 (gw_cons h5 (fun _ h => h) (gw_in (fun _ h => h))) rfl hrc hrs (X.E.1 _ h1) (X.2.2.2.2.1 _ h4) hd hR, X.2.2.2.2.1 _ h2, trivial⟩
theorem cw_VN {host : String} (X : Cx Γ p s m args meth c own cc nL ret w0) (h1 : Cond.methodLinkNest own index y host ∈ NW) (h2 : Cond.instanceMethod y ∈ GW) (h3 : Cond.selects C y y ∈ GW) (h4 : Cond.initialized y.cls ∈ GW) (h5 : Cond.code y bs mL rt ∈ GW) (hd : y.cls ≠ "java/lang/invoke/MethodHandle" ∧ y.cls ≠ "java/lang/invoke/VarHandle" ∧ (parseMethodDescriptor y.desc).map (fun d => d.parameters.length) = some n) (hrc : rm.cells = mc) (hrs : rm.slots = ms) (hR : rm.frames + 1 ≤ R.frames ∧ 8 + (mL + 11) + rm.locals ≤ R.locals) :
    va_CN R s args own index y host bs mL rt (Cond.code y bs mL rt :: GW) rm mc ms n ∧ (Cond.instanceMethod y).before args s = true ∧ (Cond.selects C y y).before args s = true :=
  ⟨va_cnB n X.2.2.2.2.1 (gw_cons h5 (fun _ h => h) (gw_in (fun _ h => h))) rfl hrc hrs (X.E.1 _ h1) (X.2.2.2.2.1 _ h4) hd hR, X.2.2.2.2.1 _ h2, X.2.2.2.2.1 _ h3⟩
theorem t_i {r : Int32} {a0 : Array Value} (Y : Wd Γ w0 s ws H locs) (B : Bk Γ w0 s H wc w1 ws') (hr : va_Run p l e R s m args below meth c H locs cells slots mc ms (F0 m pc ls st0) rest (QcI Γ wc w1 r H.size a0) (va_A wc H.size))
    (kk : ∀ (H1 : Heap) (locs1 : List Loc), Wd Γ w0 s ws' H1 locs1 → W p l e R s m args below meth c H1 locs1 (cells + mc) (slots + ms) Q (F0 m (pc + 3) ls (.int r :: rest))) : W p l e R s m args below meth c H locs cells slots Q (F0 m pc ls st0) := by
  refine va_calli hr Y.2.2 (fun q _ h => B.1 q h) B.1 (fun r2 u t H1 locs1 ht hvm hw hB hz hk hS => ?_)
  subst hw
  exact kk H1 locs1 (B.2 t H1 locs1 ht hB hk hS)
theorem t_l {r : Int64} {a0 : Array Value} (Y : Wd Γ w0 s ws H locs) (B : Bk Γ w0 s H wc w1 ws') (hr : va_Run p l e R s m args below meth c H locs cells slots mc ms (F0 m pc ls st0) rest (QcL Γ wc w1 r H.size a0) (va_A wc H.size))
    (kk : ∀ (H1 : Heap) (locs1 : List Loc), Wd Γ w0 s ws' H1 locs1 → W p l e R s m args below meth c H1 locs1 (cells + mc) (slots + ms) Q (F0 m (pc + 3) ls (.long r :: rest))) : W p l e R s m args below meth c H locs cells slots Q (F0 m pc ls st0) := by
  refine va_calll hr Y.2.2 (fun q _ h => B.1 q h) B.1 (fun r2 u t H1 locs1 ht hvm hw hB hz hk hS => ?_)
  subst hw
  exact kk H1 locs1 (B.2 t H1 locs1 ht hB hk hS)
theorem t_v {a0 : Array Value} (Y : Wd Γ w0 s ws H locs) (B : Bk Γ w0 s H wc w1 ws') (hr : va_Run p l e R s m args below meth c H locs cells slots mc ms (F0 m pc ls st0) rest (QcV Γ wc w1 H.size a0) (va_A wc H.size))
    (kk : ∀ (H1 : Heap) (locs1 : List Loc), Wd Γ w0 s ws' H1 locs1 → W p l e R s m args below meth c H1 locs1 (cells + mc) (slots + ms) Q (F0 m (pc + 3) ls rest)) : W p l e R s m args below meth c H locs cells slots Q (F0 m pc ls st0) := by
  refine va_callv hr Y.2.2 (fun q _ h => B.1 q h) B.1 (fun u t H1 locs1 ht hvm hw hB hz hk hS => ?_)
  exact kk H1 locs1 (B.2 t H1 locs1 ht hB hk hS)
theorem t_r {r : Nat} {a0 : Array Value} (Y : Wd Γ w0 s ws H locs) (B : Bk Γ w0 s H wc w1 ws') (hr : va_Run p l e R s m args below meth c H locs cells slots mc ms (F0 m pc ls st0) rest (QcR Γ wc w1 r H.size a0) (va_A wc H.size))
    (kk : ∀ (H1 : Heap) (locs1 : List Loc), Wd Γ w0 s ws' H1 locs1 → W p l e R s m args below meth c H1 locs1 (cells + mc) (slots + ms) Q (F0 m (pc + 3) ls (.ref r :: rest))) : W p l e R s m args below meth c H locs cells slots Q (F0 m pc ls st0) := by
  refine va_callr hr Y.2.2 (fun q _ h => B.1 q h) B.1 (fun u r2 t H1 locs1 ht hvm hw hB hz hk hS => ?_)
  obtain ⟨he, hB⟩ := hB
  subst he
  exact kk H1 locs1 (B.2 t H1 locs1 ht hB hk hS)
end Cl
