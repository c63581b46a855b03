/-! BASE: the words that every method has; a contract's form; rows over it -/
def GW : List Cond := lw_tbl.filter goodWord
theorem gw_good : ∀ w ∈ GW, (w.onTables && w.keeps) = true ∨ ∃ ty, w = .arrayClass ty := fun _ h => good_of_word (List.mem_filter.mp h).2
theorem gw_tbl : ∀ w ∈ GW, w ∈ lw_tbl := fun _ h => (List.mem_filter.mp h).1
theorem gw_mem {w : Cond} (i : Nat) (h : tables_1[i]? = some w) (hg : goodWord w = true) : w ∈ GW := List.mem_filter.mpr ⟨List.mem_append_right _ (List.mem_of_getElem? h), hg⟩
theorem gw_sel {w : Cond} (i : Nat) (h : (k2_sels lw_privs)[i]? = some w) (hg : goodWord w = true) : w ∈ GW := List.mem_filter.mpr ⟨List.mem_append_left _ (List.mem_of_getElem? h), hg⟩
theorem gw_in {Ts : List Cond} (hT : ∀ w ∈ GW, w ∈ Ts) : GoodIn Ts GW := fun w h => ⟨hT w h, gw_good w h⟩
theorem gw_cons {Ts : List Cond} {c : Cond} (hc : c ∈ GW) {ws : List Cond} (hT : ∀ w ∈ GW, w ∈ Ts) (h : GoodIn Ts ws) : GoodIn Ts (c :: ws) := fun w hw => (List.mem_cons.mp hw).elim (fun e => by rw [e]; exact ⟨hT c hc, gw_good c hc⟩) (h w)
/-- nest words -/
def isNest : Cond → Bool
  | .fieldLinkNest _ _ _ _ _ _ => true
  | .methodLinkNest _ _ _ _ => true
  | .castable _ _ => true
  | .arrayOver (.object _) => true
  | _ => false
def NW : List Cond := tables_1.filter isNest
theorem nw_mem {w : Cond} (i : Nat) (h : tables_1[i]? = some w) (hg : isNest w = true) : w ∈ NW := List.mem_filter.mpr ⟨List.mem_of_getElem? h, hg⟩
theorem nw_warm {w : Cond} (h : isNest w = true) {s U : State} (hW : s.WarmedH U.vm) (hZ : va_Nw w s) : va_Nw w U := by
  cases w with
  | fieldLinkNest a b c d e f => exact va_Nw.warmF hW hZ
  | methodLinkNest a b c d => exact va_Nw.warmM hW hZ
  | castable a b => exact va_Nw.warmC hW hZ
  | arrayOver ty =>
    cases ty with
    | object C => exact va_AO.moved hW.alike hZ
    | _ => cases h
  | _ => cases h
theorem nw_same {w : Cond} (h : isNest w = true) {s U : State} (hv : s.vm = U.vm) (hZ : va_Nw w s) : va_Nw w U := by
  cases w with
  | fieldLinkNest a b c d e f => exact va_Nw.same rfl hv hZ
  | methodLinkNest a b c d => exact va_Nw.same rfl hv hZ
  | castable a b => exact va_Nw.same rfl hv hZ
  | arrayOver ty =>
    cases ty with
    | object C => exact va_AO.moved (by rw [hv]; exact Vm.Alike.refl _) hZ
    | _ => cases h
  | _ => cases h
/-- what is fixed: the classes' numbers and slots; the array classes; the addresses of static arrays and texts -/
abbrev Gm : Type := va_G × (Nat → ClassId) × (Nat → Nat)
def TY (Γ : Gm) : List (ClassId × FieldType) := [(Γ.2.1 0, .int), (Γ.2.1 1, .byte), (Γ.2.1 2, .boolean), (Γ.2.1 3, .object "ThrownOver$PlainKind"), (Γ.2.1 4, .object "ThrownOver$Cargo")]
def STA : List (String × List Int32) := [("SHIP_LEAST", [0, 0]), ("SHIP_MOST", [99, 200]), ("GOODS_LEAST", [0, 0, 0, 1, 0, 0]), ("GOODS_MOST", [5, 3, 2, 40, 60, 60]), ("SEEN_LEAST", [1, 0, 0]), ("SEEN_MOST", [40, 60, 3])]
def SBY : List (List Int32) := [[115, 104, 105, 112], [103, 111, 111, 100, 115], [111, 118, 101, 114]]
def SLN : List Nat := [4, 5, 4]
def SRF : List (Nat × String) := [(115, "ship"), (121, "goods"), (123, "over")]
/-- what lies outside and stays: nest words, static arrays, texts -/
def EF (Γ : Gm) (A : Nat → Prop) (U : State) (H : Heap) : Prop :=
  (∀ w ∈ NW, va_Nw w U) ∧
  (∀ (i : Nat) (q : String × List Int32), STA[i]? = some q → va_Z "ThrownOver" q.1 "[I" (.ref (Γ.2.2 i)) A U H ∧ va_T .int (Γ.2.2 i) q.2.length (fun j => .int (q.2.getD j 0)) A U H) ∧
  vk_S 3 SLN SBY (fun i => Γ.2.2 (10 + i)) (fun i => Γ.2.2 (20 + i)) A U H ∧
  (∀ (i : Nat) (q : Nat × String), SRF[i]? = some q → vk_R "ThrownOver$Text" q.1 q.2 (Γ.2.2 (10 + i)) U) ∧
  va_Z "java/lang/String" "COMPACT_STRINGS" "Z" (.int 1) A U H ∧
  va_Zq "jdk/internal/util/Preconditions" "SIOOBE_FORMATTER" "Ljava/util/function/BiFunction;" A U H
theorem EF.at {Γ : Gm} {A B : Nat → Prop} {s U : State} {H : Heap} {locs : List Loc} (h : EF Γ A s s.heap) (hS : va_S A s.heap H locs) (hB : ∀ q, B q → A q) (hU : U.heap = H) (hW : s.WarmedH U.vm) : EF Γ B U U.heap := by
  obtain ⟨h1, h2, h3, h4, h5, h6⟩ := h
  subst hU
  refine ⟨fun w hw => nw_warm (List.mem_filter.mp hw).2 hW (h1 w hw), fun i q hq => ?_, ?_, fun i q hq => (h4 i q hq).warm hW, ?_, ?_⟩
  · obtain ⟨a, b⟩ := h2 i q hq
    exact ⟨((a.kept hS.2.1).moved hW.alike).narrow hB, ((b.kept hS.2.1).moved hW.alike).narrow hB⟩
  · exact ((h3.kept hS.2.1).moved hW.alike).narrow hB
  · exact ((h5.kept hS.2.1).moved hW.alike).narrow hB
  · exact ((h6.kept hS.2.1).moved hW.alike).narrow hB
theorem EF.blind {Γ : Gm} {A : Nat → Prop} {U : State} {g : JFrame} {mk : MethodId} {a : Array Value} (h : EF Γ A U U.heap) : EF Γ A (U.calling g mk a) (U.calling g mk a).heap := by
  obtain ⟨h1, h2, h3, h4, h5, h6⟩ := h
  have hv : U.vm = (U.calling g mk a).vm := rfl
  have hr : U.vm.Alike (U.calling g mk a).vm := Vm.Alike.refl U.vm
  exact ⟨fun w hw => nw_same (List.mem_filter.mp hw).2 hv (h1 w hw), fun i q hq => ⟨(h2 i q hq).1.moved hr, (h2 i q hq).2.moved hr⟩, h3.moved hr, fun i q hq => (h4 i q hq).same hv.symm, h5.moved hr, h6.moved hr⟩
/-- a contract's start and end -/
def Pcw (Γ : Gm) (w0 : va_W) (sz : Nat) (U : State) : Prop := U.heap.size = sz ∧ va_P Γ.1 vwCl w0 U.heap ∧ va_K Γ.1 vwCl (TY Γ) U ∧ va_D (fun _ => True) w0 ∧ EF Γ (va_A w0 sz) U U.heap
def Bw (Γ : Gm) (w0 w1 : va_W) (sz : Nat) (_ : Unit) (t : State) : Prop := va_P Γ.1 vwCl w1 t.heap ∧ va_K Γ.1 vwCl (TY Γ) t ∧ va_D (va_A w0 sz) w1
abbrev QcI (Γ : Gm) (w0 w1 : va_W) (r : Int32) (sz : Nat) : Array Value → State → Outcome → State → Prop := va_Qi (fun (r' : Int32) (_ : Unit) => r' = r) (Bw Γ w0 w1 sz) (va_A w0 sz)
abbrev QcL (Γ : Gm) (w0 w1 : va_W) (r : Int64) (sz : Nat) : Array Value → State → Outcome → State → Prop := va_Ql (fun (r' : Int64) (_ : Unit) => r' = r) (Bw Γ w0 w1 sz) (va_A w0 sz)
abbrev QcV (Γ : Gm) (w0 w1 : va_W) (sz : Nat) : Array Value → State → Outcome → State → Prop := va_Qv (fun (_ : Unit) => True) (Bw Γ w0 w1 sz) (va_A w0 sz)
abbrev QcR (Γ : Gm) (w0 w1 : va_W) (r : Nat) (sz : Nat) : Array Value → State → Outcome → State → Prop := va_Qr (fun (_ : Unit) => True) (fun u a t => a = r ∧ Bw Γ w0 w1 sz u t) (va_A w0 sz)
def CI (l : Launch) (Γ : Gm) (y : MethodName) (ws : List Cond) (rm : Room) (av : List Value) (w0 w1 : va_W) (r : Int32) : Prop := ∀ sz, Met l y ws rm (va_Pc av (Pcw Γ w0 sz)) (QcI Γ w0 w1 r sz) 0 0 (va_A w0 sz)
def CL (l : Launch) (Γ : Gm) (y : MethodName) (ws : List Cond) (rm : Room) (av : List Value) (w0 w1 : va_W) (r : Int64) : Prop := ∀ sz, Met l y ws rm (va_Pc av (Pcw Γ w0 sz)) (QcL Γ w0 w1 r sz) 0 0 (va_A w0 sz)
def CV (l : Launch) (Γ : Gm) (y : MethodName) (ws : List Cond) (rm : Room) (av : List Value) (w0 w1 : va_W) : Prop := ∀ sz, Met l y ws rm (va_Pc av (Pcw Γ w0 sz)) (QcV Γ w0 w1 sz) 0 0 (va_A w0 sz)
def CR (l : Launch) (Γ : Gm) (y : MethodName) (ws : List Cond) (rm : Room) (av : List Value) (w0 w1 : va_W) (r : Nat) : Prop := ∀ sz, Met l y ws rm (va_Pc av (Pcw Γ w0 sz)) (QcR Γ w0 w1 r sz) 0 0 (va_A w0 sz)
theorem pcw_blind {Γ : Gm} {w0 : va_W} {sz : Nat} {av : List Value} : FrameBlind (va_Pc av (Pcw Γ w0 sz)) := fun a U g mk q => by
  obtain ⟨q0, q1, q2, q3, q4, q5⟩ := q
  exact ⟨q0, q1, q2, va_K.moved (u := U) (U := U.calling g mk a) (Vm.Alike.refl U.vm) q3, q4, q5.blind⟩
/-- what holds all through a method's body -/
def Cx (Γ : Gm) (p : Program) (s : State) (m : MethodId) (args : Array Value) (meth : Method) (c : Code) (own : String) (cc : ByteArray) (nL : Nat) (ret : Option FieldType) (w0 : va_W) : Prop :=
  p.tables.exec = Jvm.exec ∧ c.code = cc ∧ c.maxLocals = nL ∧ s.vm.findClass own = some m.cls ∧ (∀ w ∈ GW, w.before args s = true) ∧ meth.sig.returnType = ret ∧ meth.locks = false ∧ va_K Γ.1 vwCl (TY Γ) s ∧ EF Γ (va_A w0 s.heap.size) s s.heap
def Wd (Γ : Gm) (w0 : va_W) (s : State) (ws : va_W) (H : Heap) (locs : List Loc) : Prop := va_P Γ.1 vwCl ws H ∧ va_D (va_A w0 s.heap.size) ws ∧ va_S (va_A w0 s.heap.size) s.heap H locs
abbrev EI (Γ : Gm) (below : List Frame) (args : Array Value) (s : State) (w0 w1 : va_W) (r : Int32) : State → Prop := MQ below (QcI Γ w0 w1 r s.heap.size) args s 0 0 (va_A w0 s.heap.size)
abbrev EL (Γ : Gm) (below : List Frame) (args : Array Value) (s : State) (w0 w1 : va_W) (r : Int64) : State → Prop := MQ below (QcL Γ w0 w1 r s.heap.size) args s 0 0 (va_A w0 s.heap.size)
abbrev EV (Γ : Gm) (below : List Frame) (args : Array Value) (s : State) (w0 w1 : va_W) : State → Prop := MQ below (QcV Γ w0 w1 s.heap.size) args s 0 0 (va_A w0 s.heap.size)
abbrev ER (Γ : Gm) (below : List Frame) (args : Array Value) (s : State) (w0 w1 : va_W) (r : Nat) : State → Prop := MQ below (QcR Γ w0 w1 r s.heap.size) args s 0 0 (va_A w0 s.heap.size)
section BaseC
variable {l : Launch} {Γ : Gm} {y : MethodName} {rm : Room} {av : List Value} {w0 w1 : va_W} {cc : ByteArray} {maxL : Nat} {ret : Option FieldType}
theorem ofBody {Qc : Nat → Array Value → State → Outcome → State → Prop} {mc ms : Nat} (hy : plainName y.cls = true) (hn : (lg_sl av).length ≤ maxL)
    (body : ∀ (p : Program) (e : Env) (s : State) (m : MethodId) (below : List Frame) (meth : Method) (c : Code) (ls : Array Slot), meth.name = y.name → Cx Γ p s m av.toArray meth c y.cls cc maxL ret w0 → Wd Γ w0 s w0 s.heap [] → lv_has ls maxL (lv_args 0 av) →
      W p l e rm s m av.toArray below meth c s.heap [] 0 0 (MQ below (Qc s.heap.size) av.toArray s mc ms (va_A w0 s.heap.size)) (F0 m 0 ls [])) :
    ∀ sz, Met l y (Cond.code y cc maxL ret :: GW) rm (va_Pc av (Pcw Γ w0 sz)) (Qc sz) mc ms (va_A w0 sz) := by
  intro sz
  refine Met.ofW (cc := cc) (maxL := maxL) (ret := ret) hy rfl ?_
  intro p e s m args below meth c s₁ B hml hv
  obtain ⟨rfl, hsz, hP, hK, hD0, hE⟩ := hv
  subst hsz
  have hts := atoms_spec (ws := Cond.code y cc maxL ret :: GW) B.pre
  have hown : s.vm.findClass y.cls = some m.cls := findClass_of_methodNamed B.named
  rw [lg_entry_eq]
  exact body p e s m below meth c _ (name_of_methodNamed B.named B.method).1 ⟨B.exec, B.bytes, hml, hown, fun w hw => hts w (List.mem_cons_of_mem _ hw), B.returns, B.notSynchronized, hK, hE⟩ ⟨hP, hD0.self, va_S.rf⟩ (lv_entry av hn)
end BaseC
