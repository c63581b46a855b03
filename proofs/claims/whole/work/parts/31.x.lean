section
variable {p : Program} {l : Launch} {e : Env} {R : Room} {s : State} {m : MethodId} {args : Array Value} {below : List Frame} {meth : Method} {c : Code} {H : Heap} {locs : List Loc} {Q : State → Prop} {cells slots : Nat}
variable {Γ : Gm} {own : String} {cc : ByteArray} {nL : Nat} {ret : Option FieldType} {w0 ws ws' : va_W} {pc : Nat} {ls : Array Slot} {rest : List Value} {a : Nat}
theorem dmX1_goneV : yX1_gone.cls = RX1 ∧ yX1_gone.cls ≠ "java/lang/invoke/MethodHandle" ∧ yX1_gone.cls ≠ "java/lang/invoke/VarHandle" ∧ (parseMethodDescriptor yX1_gone.desc).map (fun d => d.parameters.length) = some 0 := by decide +kernel
theorem cwX1_68 (X : Cx Γ p s m args meth c RX1 cc nL ret w0) (hR : rmC_gone.frames + 1 ≤ R.frames ∧ 8 + (1 + 11) + rmC_gone.locals ≤ R.locals) : CallW R s args RX1 RX1 68 yX1_gone cX1_gone 1 (some .int) (Cond.code yX1_gone cX1_gone 1 (some .int) :: GW) rmC_gone 0 0 0 := cw_V X kw260 kw261 kw262 kw228 kw263 dmX1_goneV rfl rfl hR
theorem dmX1_fitsAllV : yX1_fitsAll.cls = RX1 ∧ yX1_fitsAll.cls ≠ "java/lang/invoke/MethodHandle" ∧ yX1_fitsAll.cls ≠ "java/lang/invoke/VarHandle" ∧ (parseMethodDescriptor yX1_fitsAll.desc).map (fun d => d.parameters.length) = some 1 := by decide +kernel
theorem cwX1_72 (X : Cx Γ p s m args meth c RX1 cc nL ret w0) (hR : rmC_fitsAll.frames + 1 ≤ R.frames ∧ 8 + (4 + 11) + rmC_fitsAll.locals ≤ R.locals) : CallW R s args RX1 RX1 72 yX1_fitsAll cX1_fitsAll 4 (some .boolean) (Cond.code yX1_fitsAll cX1_fitsAll 4 (some .boolean) :: GW) rmC_fitsAll 0 0 1 := cw_V X kw264 kw265 kw266 kw228 kw267 dmX1_fitsAllV rfl rfl hR
def rmC_fitting : Room := { frames := 3, cells := 0, slots := 0, locals := 67 }
def C_fitting_9 (rc9 : Int32 → Int32 → Int32 → Int32 → Int32 → Int32 → (Nat → Int32) → (Nat → Int32) → Option (Int32)) (x1 : Int32) (x2 : Int32) (x3 : Int32) (csi : Int32) (cab : Int32) (csg : Int32) (cfa : Nat → Int32) (cst : Nat → Int32) : Option (Int32) := if csi ≤ x3 then (some x2) else (bd1 (X_isIn x1 x3) (fun (r_2 : Int32) => if r_2 = 0 then (bnd (x3 + (1 : Int32)) (fun (x3_4 : Int32) => rc9 x1 x2 x3_4 csi cab csg cfa cst)) else (bd1 (C_fitsAll x3 csi csg cfa cst) (fun (r_5 : Int32) => if r_5 = 0 then (bnd (x3 + (1 : Int32)) (fun (x3_7 : Int32) => rc9 x1 x2 x3_7 csi cab csg cfa cst)) else (bnd (x2 ||| ((1 : Int32) <<< (x3 &&& 31))) (fun (x2_8 : Int32) => bnd (x3 + (1 : Int32)) (fun (x3_9 : Int32) => rc9 x1 x2_8 x3_9 csi cab csg cfa cst)))))))
set_option maxHeartbeats 4000000 in
set_option maxRecDepth 100000 in
theorem bC_fitting_9 {Ac : Nat → Nat} {csw : Int32} {cca : Int32} {csi : Int32} {cab : Int32} {cun : Int32} {csg : Int32} {cfa : Nat → Int32} {che : Nat → Int32} {cst : Nat → Int32} {r0 : Int32} {x1 : Int32} {x2 : Int32} {x3 : Int32} {rc9 : Int32 → Int32 → Int32 → Int32 → Int32 → Int32 → (Nat → Int32) → (Nat → Int32) → Option (Int32)} (X : Cx Γ p s m args meth c RX1 cX1_fitting 4 (some .int) w0) (h9 : ∀ (x1 : Int32) (x2 : Int32) (x3 : Int32) (csi : Int32) (cab : Int32) (csg : Int32) (cfa : Nat → Int32) (cst : Nat → Int32), rc9 x1 x2 x3 csi cab csg cfa cst = some r0 → ∀ (H : Heap) (locs : List Loc) (ls : Array Slot), Wd Γ w0 s (WC Γ Ac csw cca csi cab cun csg cfa che cst) H locs → lv_has ls 4 [(0, .ref (Ac 0)), (1, .int x1), (2, .int x2), (3, .int x3)] → W p l e rmC_fitting s m args below meth c H locs 0 0 (EI Γ below args s w0 (WC Γ Ac csw cca csi cab cun csg cfa che cst) r0) (F0 m 9 ls [])) (hf : C_fitting_9 rc9 x1 x2 x3 csi cab csg cfa cst = some r0) (Y : Wd Γ w0 s (WC Γ Ac csw cca csi cab cun csg cfa che cst) H locs) (hl : lv_has ls 4 [(0, .ref (Ac 0)), (1, .int x1), (2, .int x2), (3, .int x3)]) : W p l e rmC_fitting s m args below meth c H locs 0 0 (EI Γ below args s w0 (WC Γ Ac csw cca csi cab cun csg cfa che cst) r0) (F0 m 9 ls []) := by
  have hx := X.1
  have hb := X.2.1
  refine lv_iload_n hx hb dX1_fitting_9 rfl (lv_at hl 3 rfl) ?_
  refine lv_aload_n hx hb dX1_fitting_10 rfl (lv_at hl 0 rfl) ?_
  refine gfX1_28 X Y (v := .int csi) 0 rfl rfl dX1_fitting_11 ?_
  refine lv_icmp_ge (tgt := 45) hx hb dX1_fitting_14 (by decide) (fun c_1 => ?_) (fun c_1 => ?_)
  · have hf := ite_t hf c_1
    refine lv_iload_n hx hb dX1_fitting_45 rfl (lv_at hl 2 rfl) ?_
    have e90 := Option.some.inj hf
    subst e90
    exact x_iret X Y dX1_fitting_46
  · have hf := ite_f hf c_1
    refine lv_iload_n hx hb dX1_fitting_17 rfl (lv_at hl 1 rfl) ?_
    refine lv_iload_n hx hb dX1_fitting_18 rfl (lv_at hl 3 rfl) ?_
    obtain ⟨r_2, ho_11, hf⟩ := bd1_some hf
    refine t_i Y (bk0 Y) (r_SN (As := [.int x1, .int x3]) (rest := []) X (c_pre0 X Y) (cX_isIn ho_11) (cwX1_54 X (by decide)) rfl hl.1 (Nat.le_of_ble_eq_true rfl) rfl dX1_fitting_19 ⟨Nat.zero_le _, Nat.zero_le _⟩) (fun H locs Y => ?_)
    refine lv_if_eq (tgt := 39) hx hb dX1_fitting_22 (by decide) (fun c_3 => ?_) (fun c_3 => ?_)
    · have hf := ite_t hf c_3
      obtain ⟨x3_4, e_x3_4⟩ : ∃ z : Int32, z = (x3 + (1 : Int32)) := ⟨_, rfl⟩
      have hf := bnd_eq hf e_x3_4
      refine lv_iinc (v := x3_4) (lv' := [(3, .int x3_4), (0, .ref (Ac 0)), (1, .int x1), (2, .int x2)]) hx hb dX1_fitting_39 hl (k := 3) rfl (by rw [e_x3_4]; rfl) (by decide) rfl (fun ls hl => ?_)
      refine lv_goto (tgt := 9) hx hb dX1_fitting_42 (by decide) ?_
      exact h9 _ _ _ _ _ _ _ _ hf _ _ _ Y (lv_sub hl [1, 2, 3, 0] rfl)
    · have hf := ite_f hf c_3
      refine lv_aload_n hx hb dX1_fitting_25 rfl (lv_at hl 0 rfl) ?_
      refine lv_iload_n hx hb dX1_fitting_26 rfl (lv_at hl 3 rfl) ?_
      obtain ⟨r_5, ho_10, hf⟩ := bd1_some hf
      refine t_i Y (bkS Y) (r_V (As := [.int x3]) (rest := []) X (c_preS X Y) (cC_fitsAll ho_10) (cwX1_72 X (by decide)) (va_recv X.K Y.1 (q := (RX1, TX1, 9)) (q0 := 0) (ci := 1) rfl rfl) rfl hl.1 (Nat.le_of_ble_eq_true rfl) rfl dX1_fitting_27 ⟨Nat.zero_le _, Nat.zero_le _⟩) (fun H locs Y => ?_)
      refine lv_if_eq (tgt := 39) hx hb dX1_fitting_30 (by decide) (fun c_6 => ?_) (fun c_6 => ?_)
      · have hf := ite_t hf c_6
        obtain ⟨x3_7, e_x3_7⟩ : ∃ z : Int32, z = (x3 + (1 : Int32)) := ⟨_, rfl⟩
        have hf := bnd_eq hf e_x3_7
        refine lv_iinc (v := x3_7) (lv' := [(3, .int x3_7), (0, .ref (Ac 0)), (1, .int x1), (2, .int x2)]) hx hb dX1_fitting_39 hl (k := 3) rfl (by rw [e_x3_7]; rfl) (by decide) rfl (fun ls hl => ?_)
        refine lv_goto (tgt := 9) hx hb dX1_fitting_42 (by decide) ?_
        exact h9 _ _ _ _ _ _ _ _ hf _ _ _ Y (lv_sub hl [1, 2, 3, 0] rfl)
      · have hf := ite_f hf c_6
        refine lv_iload_n hx hb dX1_fitting_33 rfl (lv_at hl 2 rfl) ?_
        refine lv_iconst (v := (1 : Int32)) hx hb dX1_fitting_34 (by decide) ?_
        refine lv_iload_n hx hb dX1_fitting_35 rfl (lv_at hl 3 rfl) ?_
        refine lv_ishl hx hb dX1_fitting_36 ?_
        refine lv_ior hx hb dX1_fitting_37 ?_
        refine lv_topi (fun x2_8 e_x2_8 => ?_)
        have hf := bnd_eq hf e_x2_8
        refine lv_istore_n (lv' := [(2, .int x2_8), (0, .ref (Ac 0)), (1, .int x1), (3, .int x3)]) hx hb dX1_fitting_38 rfl hl (by decide) rfl (fun ls hl => ?_)
        obtain ⟨x3_9, e_x3_9⟩ : ∃ z : Int32, z = (x3 + (1 : Int32)) := ⟨_, rfl⟩
        have hf := bnd_eq hf e_x3_9
        refine lv_iinc (v := x3_9) (lv' := [(3, .int x3_9), (2, .int x2_8), (0, .ref (Ac 0)), (1, .int x1)]) hx hb dX1_fitting_39 hl (k := 3) rfl (by rw [e_x3_9]; rfl) (by decide) rfl (fun ls hl => ?_)
        refine lv_goto (tgt := 9) hx hb dX1_fitting_42 (by decide) ?_
        exact h9 _ _ _ _ _ _ _ _ hf _ _ _ Y (lv_sub hl [2, 3, 1, 0] rfl)
def C_fitting_L9 : Nat → Int32 → Int32 → Int32 → Int32 → Int32 → Int32 → (Nat → Int32) → (Nat → Int32) → Option (Int32)
  | 0, _, _, _, _, _, _, _, _ => none
  | n + 1, x1, x2, x3, csi, cab, csg, cfa, cst => C_fitting_9 (C_fitting_L9 n) x1 x2 x3 csi cab csg cfa cst
theorem lC_fitting_9 {Ac : Nat → Nat} {csw : Int32} {cca : Int32} {cun : Int32} {che : Nat → Int32} {r0 : Int32} (X : Cx Γ p s m args meth c RX1 cX1_fitting 4 (some .int) w0) : ∀ (n : Nat) (x1 : Int32) (x2 : Int32) (x3 : Int32) (csi : Int32) (cab : Int32) (csg : Int32) (cfa : Nat → Int32) (cst : Nat → Int32), C_fitting_L9 n x1 x2 x3 csi cab csg cfa cst = some r0 → ∀ (H : Heap) (locs : List Loc) (ls : Array Slot), Wd Γ w0 s (WC Γ Ac csw cca csi cab cun csg cfa che cst) H locs → lv_has ls 4 [(0, .ref (Ac 0)), (1, .int x1), (2, .int x2), (3, .int x3)] → W p l e rmC_fitting s m args below meth c H locs 0 0 (EI Γ below args s w0 (WC Γ Ac csw cca csi cab cun csg cfa che cst) r0) (F0 m 9 ls []) := by
  intro n
  induction n with
  | zero => intro x1 x2 x3 csi cab csg cfa cst hf; cases hf
  | succ n ih => intro x1 x2 x3 csi cab csg cfa cst hf H locs ls Y hl; exact bC_fitting_9 X ih hf Y hl
def C_fitting (csi : Int32) (cab : Int32) (csg : Int32) (cfa : Nat → Int32) (cst : Nat → Int32) : Option (Int32) := bd1 (C_gone csi cab) (fun (r_1 : Int32) => C_fitting_L9 FU r_1 (0 : Int32) (0 : Int32) csi cab csg cfa cst)
set_option maxHeartbeats 4000000 in
set_option maxRecDepth 100000 in
theorem bC_fitting_e {Ac : Nat → Nat} {csw : Int32} {cca : Int32} {csi : Int32} {cab : Int32} {cun : Int32} {csg : Int32} {cfa : Nat → Int32} {che : Nat → Int32} {cst : Nat → Int32} {r0 : Int32} (X : Cx Γ p s m args meth c RX1 cX1_fitting 4 (some .int) w0) (hf : C_fitting csi cab csg cfa cst = some r0) (Y : Wd Γ w0 s (WC Γ Ac csw cca csi cab cun csg cfa che cst) H locs) (hl : lv_has ls 4 [(0, .ref (Ac 0))]) : W p l e rmC_fitting s m args below meth c H locs 0 0 (EI Γ below args s w0 (WC Γ Ac csw cca csi cab cun csg cfa che cst) r0) (F0 m 0 ls []) := by
  have hx := X.1
  have hb := X.2.1
  refine lv_aload_n hx hb dX1_fitting_0 rfl (lv_at hl 0 rfl) ?_
  obtain ⟨r_1, ho_2, hf⟩ := bd1_some hf
  refine t_i Y (bkS Y) (r_V (As := []) (rest := []) X (c_preS X Y) (cC_gone ho_2) (cwX1_68 X (by decide)) (va_recv X.K Y.1 (q := (RX1, TX1, 9)) (q0 := 0) (ci := 1) rfl rfl) rfl hl.1 (Nat.le_of_ble_eq_true rfl) rfl dX1_fitting_1 ⟨Nat.zero_le _, Nat.zero_le _⟩) (fun H locs Y => ?_)
  refine lv_istore_n (lv' := [(1, .int r_1), (0, .ref (Ac 0))]) hx hb dX1_fitting_4 rfl hl (by decide) rfl (fun ls hl => ?_)
  refine lv_iconst (v := (0 : Int32)) hx hb dX1_fitting_5 (by decide) ?_
  refine lv_istore_n (lv' := [(2, .int (0 : Int32)), (1, .int r_1), (0, .ref (Ac 0))]) hx hb dX1_fitting_6 rfl hl (by decide) rfl (fun ls hl => ?_)
  refine lv_iconst (v := (0 : Int32)) hx hb dX1_fitting_7 (by decide) ?_
  refine lv_istore_n (lv' := [(3, .int (0 : Int32)), (2, .int (0 : Int32)), (1, .int r_1), (0, .ref (Ac 0))]) hx hb dX1_fitting_8 rfl hl (by decide) rfl (fun ls hl => ?_)
  exact lC_fitting_9 X _ _ _ _ _ _ _ _ _ hf _ _ _ Y (lv_sub hl [3, 2, 1, 0] rfl)
theorem cC_fitting {l : Launch} {Γ : Gm} {Ac : Nat → Nat} {csw : Int32} {cca : Int32} {csi : Int32} {cab : Int32} {cun : Int32} {csg : Int32} {cfa : Nat → Int32} {che : Nat → Int32} {cst : Nat → Int32} {r0 : Int32} (h : C_fitting csi cab csg cfa cst = some r0) : CI l Γ yX1_fitting (Cond.code yX1_fitting cX1_fitting 4 (some .int) :: GW) rmC_fitting [.ref (Ac 0)] (WC Γ Ac csw cca csi cab cun csg cfa che cst) (WC Γ Ac csw cca csi cab cun csg cfa che cst) r0 := ofBody (Qc := QcI Γ _ _ r0) (by decide) (Nat.le_of_ble_eq_true rfl) (fun p e s m below meth c ls _ X Y hl => bC_fitting_e X h Y hl)
def rmC_countWith : Room := { frames := 2, cells := 0, slots := 0, locals := 44 }
def C_countWith_6 (rc6 : Int32 → Int32 → Int32 → Int32 → Int32 → Int32 → (Nat → Int32) → Option (Int32)) (x1 : Int32) (x2 : Int32) (x3 : Int32) (x4 : Int32) (x5 : Int32) (csi : Int32) (cfa : Nat → Int32) : Option (Int32) := if csi ≤ x5 then (some x4) else (bd1 (X_isIn x1 x5) (fun (r_2 : Int32) => if r_2 = 0 then (bnd (x5 + (1 : Int32)) (fun (x5_4 : Int32) => rc6 x1 x2 x3 x4 x5_4 csi cfa)) else (bd1 (C_fact x5 x2 csi cfa) (fun (r_5 : Int32) => if r_5 = x3 then (bnd (x4 + (1 : Int32)) (fun (x4_8 : Int32) => bnd (x5 + (1 : Int32)) (fun (x5_9 : Int32) => rc6 x1 x2 x3 x4_8 x5_9 csi cfa))) else (bnd (x5 + (1 : Int32)) (fun (x5_7 : Int32) => rc6 x1 x2 x3 x4 x5_7 csi cfa))))))
set_option maxHeartbeats 4000000 in
set_option maxRecDepth 100000 in
theorem bC_countWith_6 {Ac : Nat → Nat} {csw : Int32} {cca : Int32} {csi : Int32} {cab : Int32} {cun : Int32} {csg : Int32} {cfa : Nat → Int32} {che : Nat → Int32} {cst : Nat → Int32} {r0 : Int32} {x1 : Int32} {x2 : Int32} {x3 : Int32} {x4 : Int32} {x5 : Int32} {rc6 : Int32 → Int32 → Int32 → Int32 → Int32 → Int32 → (Nat → Int32) → Option (Int32)} (X : Cx Γ p s m args meth c RX1 cX1_countWith 6 (some .int) w0) (h6 : ∀ (x1 : Int32) (x2 : Int32) (x3 : Int32) (x4 : Int32) (x5 : Int32) (csi : Int32) (cfa : Nat → Int32), rc6 x1 x2 x3 x4 x5 csi cfa = some r0 → ∀ (H : Heap) (locs : List Loc) (ls : Array Slot), Wd Γ w0 s (WC Γ Ac csw cca csi cab cun csg cfa che cst) H locs → lv_has ls 6 [(0, .ref (Ac 0)), (1, .int x1), (2, .int x2), (3, .int x3), (4, .int x4), (5, .int x5)] → W p l e rmC_countWith s m args below meth c H locs 0 0 (EI Γ below args s w0 (WC Γ Ac csw cca csi cab cun csg cfa che cst) r0) (F0 m 6 ls [])) (hf : C_countWith_6 rc6 x1 x2 x3 x4 x5 csi cfa = some r0) (Y : Wd Γ w0 s (WC Γ Ac csw cca csi cab cun csg cfa che cst) H locs) (hl : lv_has ls 6 [(0, .ref (Ac 0)), (1, .int x1), (2, .int x2), (3, .int x3), (4, .int x4), (5, .int x5)]) : W p l e rmC_countWith s m args below meth c H locs 0 0 (EI Γ below args s w0 (WC Γ Ac csw cca csi cab cun csg cfa che cst) r0) (F0 m 6 ls []) := by
  have hx := X.1
  have hb := X.2.1
  refine lv_iload hx hb dX1_countWith_6 (lv_at hl 5 rfl) ?_
  refine lv_aload_n hx hb dX1_countWith_8 rfl (lv_at hl 0 rfl) ?_
  refine gfX1_28 X Y (v := .int csi) 0 rfl rfl dX1_countWith_9 ?_
  refine lv_icmp_ge (tgt := 44) hx hb dX1_countWith_12 (by decide) (fun c_1 => ?_) (fun c_1 => ?_)
  · have hf := ite_t hf c_1
    refine lv_iload hx hb dX1_countWith_44 (lv_at hl 4 rfl) ?_
    have e90 := Option.some.inj hf
    subst e90
    exact x_iret X Y dX1_countWith_46
  · have hf := ite_f hf c_1
    refine lv_iload_n hx hb dX1_countWith_15 rfl (lv_at hl 1 rfl) ?_
    refine lv_iload hx hb dX1_countWith_16 (lv_at hl 5 rfl) ?_
    obtain ⟨r_2, ho_11, hf⟩ := bd1_some hf
    refine t_i Y (bk0 Y) (r_SN (As := [.int x1, .int x5]) (rest := []) X (c_pre0 X Y) (cX_isIn ho_11) (cwX1_54 X (by decide)) rfl hl.1 (Nat.le_of_ble_eq_true rfl) rfl dX1_countWith_18 ⟨Nat.zero_le _, Nat.zero_le _⟩) (fun H locs Y => ?_)
    refine lv_if_eq (tgt := 38) hx hb dX1_countWith_21 (by decide) (fun c_3 => ?_) (fun c_3 => ?_)
    · have hf := ite_t hf c_3
      obtain ⟨x5_4, e_x5_4⟩ : ∃ z : Int32, z = (x5 + (1 : Int32)) := ⟨_, rfl⟩
      have hf := bnd_eq hf e_x5_4
      refine lv_iinc (v := x5_4) (lv' := [(5, .int x5_4), (0, .ref (Ac 0)), (1, .int x1), (2, .int x2), (3, .int x3), (4, .int x4)]) hx hb dX1_countWith_38 hl (k := 5) rfl (by rw [e_x5_4]; rfl) (by decide) rfl (fun ls hl => ?_)
      refine lv_goto (tgt := 6) hx hb dX1_countWith_41 (by decide) ?_
      exact h6 _ _ _ _ _ _ _ hf _ _ _ Y (lv_sub hl [1, 2, 3, 4, 5, 0] rfl)
    · have hf := ite_f hf c_3
      refine lv_aload_n hx hb dX1_countWith_24 rfl (lv_at hl 0 rfl) ?_
      refine lv_iload hx hb dX1_countWith_25 (lv_at hl 5 rfl) ?_
      refine lv_iload_n hx hb dX1_countWith_27 rfl (lv_at hl 2 rfl) ?_
      obtain ⟨r_5, ho_10, hf⟩ := bd1_some hf
      refine t_i Y (bkS Y) (r_V (As := [.int x5, .int x2]) (rest := []) X (c_preS X Y) (cC_fact ho_10) (cwX1_58 X (by decide)) (va_recv X.K Y.1 (q := (RX1, TX1, 9)) (q0 := 0) (ci := 1) rfl rfl) rfl hl.1 (Nat.le_of_ble_eq_true rfl) rfl dX1_countWith_28 ⟨Nat.zero_le _, Nat.zero_le _⟩) (fun H locs Y => ?_)
      refine lv_iload_n hx hb dX1_countWith_31 rfl (lv_at hl 3 rfl) ?_
      refine lv_icmp_ne (tgt := 38) hx hb dX1_countWith_32 (by decide) (fun c_6 => ?_) (fun c_6 => ?_)
      · have hf := ite_f hf c_6
        obtain ⟨x5_7, e_x5_7⟩ : ∃ z : Int32, z = (x5 + (1 : Int32)) := ⟨_, rfl⟩
        have hf := bnd_eq hf e_x5_7
        refine lv_iinc (v := x5_7) (lv' := [(5, .int x5_7), (0, .ref (Ac 0)), (1, .int x1), (2, .int x2), (3, .int x3), (4, .int x4)]) hx hb dX1_countWith_38 hl (k := 5) rfl (by rw [e_x5_7]; rfl) (by decide) rfl (fun ls hl => ?_)
        refine lv_goto (tgt := 6) hx hb dX1_countWith_41 (by decide) ?_
        exact h6 _ _ _ _ _ _ _ hf _ _ _ Y (lv_sub hl [1, 2, 3, 4, 5, 0] rfl)
      · have hf := ite_t hf c_6
        obtain ⟨x4_8, e_x4_8⟩ : ∃ z : Int32, z = (x4 + (1 : Int32)) := ⟨_, rfl⟩
        have hf := bnd_eq hf e_x4_8
        refine lv_iinc (v := x4_8) (lv' := [(4, .int x4_8), (0, .ref (Ac 0)), (1, .int x1), (2, .int x2), (3, .int x3), (5, .int x5)]) hx hb dX1_countWith_35 hl (k := 4) rfl (by rw [e_x4_8]; rfl) (by decide) rfl (fun ls hl => ?_)
        obtain ⟨x5_9, e_x5_9⟩ : ∃ z : Int32, z = (x5 + (1 : Int32)) := ⟨_, rfl⟩
        have hf := bnd_eq hf e_x5_9
        refine lv_iinc (v := x5_9) (lv' := [(5, .int x5_9), (4, .int x4_8), (0, .ref (Ac 0)), (1, .int x1), (2, .int x2), (3, .int x3)]) hx hb dX1_countWith_38 hl (k := 5) rfl (by rw [e_x5_9]; rfl) (by decide) rfl (fun ls hl => ?_)
        refine lv_goto (tgt := 6) hx hb dX1_countWith_41 (by decide) ?_
        exact h6 _ _ _ _ _ _ _ hf _ _ _ Y (lv_sub hl [2, 3, 4, 5, 1, 0] rfl)
def C_countWith_L6 : Nat → Int32 → Int32 → Int32 → Int32 → Int32 → Int32 → (Nat → Int32) → Option (Int32)
  | 0, _, _, _, _, _, _, _ => none
  | n + 1, x1, x2, x3, x4, x5, csi, cfa => C_countWith_6 (C_countWith_L6 n) x1 x2 x3 x4 x5 csi cfa
theorem lC_countWith_6 {Ac : Nat → Nat} {csw : Int32} {cca : Int32} {cab : Int32} {cun : Int32} {csg : Int32} {che : Nat → Int32} {cst : Nat → Int32} {r0 : Int32} (X : Cx Γ p s m args meth c RX1 cX1_countWith 6 (some .int) w0) : ∀ (n : Nat) (x1 : Int32) (x2 : Int32) (x3 : Int32) (x4 : Int32) (x5 : Int32) (csi : Int32) (cfa : Nat → Int32), C_countWith_L6 n x1 x2 x3 x4 x5 csi cfa = some r0 → ∀ (H : Heap) (locs : List Loc) (ls : Array Slot), Wd Γ w0 s (WC Γ Ac csw cca csi cab cun csg cfa che cst) H locs → lv_has ls 6 [(0, .ref (Ac 0)), (1, .int x1), (2, .int x2), (3, .int x3), (4, .int x4), (5, .int x5)] → W p l e rmC_countWith s m args below meth c H locs 0 0 (EI Γ below args s w0 (WC Γ Ac csw cca csi cab cun csg cfa che cst) r0) (F0 m 6 ls []) := by
  intro n
  induction n with
  | zero => intro x1 x2 x3 x4 x5 csi cfa hf; cases hf
  | succ n ih => intro x1 x2 x3 x4 x5 csi cfa hf H locs ls Y hl; exact bC_countWith_6 X ih hf Y hl
def C_countWith (x1 : Int32) (x2 : Int32) (x3 : Int32) (csi : Int32) (cfa : Nat → Int32) : Option (Int32) := C_countWith_L6 FU x1 x2 x3 (0 : Int32) (0 : Int32) csi cfa
set_option maxHeartbeats 4000000 in
set_option maxRecDepth 100000 in
theorem bC_countWith_e {Ac : Nat → Nat} {csw : Int32} {cca : Int32} {csi : Int32} {cab : Int32} {cun : Int32} {csg : Int32} {cfa : Nat → Int32} {che : Nat → Int32} {cst : Nat → Int32} {r0 : Int32} {x1 : Int32} {x2 : Int32} {x3 : Int32} (X : Cx Γ p s m args meth c RX1 cX1_countWith 6 (some .int) w0) (hf : C_countWith x1 x2 x3 csi cfa = some r0) (Y : Wd Γ w0 s (WC Γ Ac csw cca csi cab cun csg cfa che cst) H locs) (hl : lv_has ls 6 [(0, .ref (Ac 0)), (1, .int x1), (2, .int x2), (3, .int x3)]) : W p l e rmC_countWith s m args below meth c H locs 0 0 (EI Γ below args s w0 (WC Γ Ac csw cca csi cab cun csg cfa che cst) r0) (F0 m 0 ls []) := by
  have hx := X.1
  have hb := X.2.1
  refine lv_iconst (v := (0 : Int32)) hx hb dX1_countWith_0 (by decide) ?_
  refine lv_istore (lv' := [(4, .int (0 : Int32)), (0, .ref (Ac 0)), (1, .int x1), (2, .int x2), (3, .int x3)]) hx hb dX1_countWith_1 hl (by decide) rfl (fun ls hl => ?_)
  refine lv_iconst (v := (0 : Int32)) hx hb dX1_countWith_3 (by decide) ?_
  refine lv_istore (lv' := [(5, .int (0 : Int32)), (4, .int (0 : Int32)), (0, .ref (Ac 0)), (1, .int x1), (2, .int x2), (3, .int x3)]) hx hb dX1_countWith_4 hl (by decide) rfl (fun ls hl => ?_)
  exact lC_countWith_6 X _ _ _ _ _ _ _ _ hf _ _ _ Y (lv_sub hl [2, 3, 4, 5, 1, 0] rfl)
theorem cC_countWith {l : Launch} {Γ : Gm} {Ac : Nat → Nat} {csw : Int32} {cca : Int32} {csi : Int32} {cab : Int32} {cun : Int32} {csg : Int32} {cfa : Nat → Int32} {che : Nat → Int32} {cst : Nat → Int32} {r0 : Int32} {x1 : Int32} {x2 : Int32} {x3 : Int32} (h : C_countWith x1 x2 x3 csi cfa = some r0) : CI l Γ yX1_countWith (Cond.code yX1_countWith cX1_countWith 6 (some .int) :: GW) rmC_countWith [.ref (Ac 0), .int x1, .int x2, .int x3] (WC Γ Ac csw cca csi cab cun csg cfa che cst) (WC Γ Ac csw cca csi cab cun csg cfa che cst) r0 := ofBody (Qc := QcI Γ _ _ r0) (by decide) (Nat.le_of_ble_eq_true rfl) (fun p e s m below meth c ls _ X Y hl => bC_countWith_e X h Y hl)
def rmK8_madeGood : Room := { frames := 0, cells := 0, slots := 0, locals := 0 }
def K8_madeGood (x1 : Int32) : Option (Int32) := some x1
set_option maxHeartbeats 4000000 in
set_option maxRecDepth 100000 in
theorem bK8_madeGood_e {Ak : Nat → Nat} {r0 : Int32} {x1 : Int32} (X : Cx Γ p s m args meth c RX8 cX8_madeGood 2 (some .int) w0) (hf : K8_madeGood x1 = some r0) (Y : Wd Γ w0 s ([] : va_W) H locs) (hl : lv_has ls 2 [(0, .ref (Ak 0)), (1, .int x1)]) : W p l e rmK8_madeGood s m args below meth c H locs 0 0 (EI Γ below args s w0 ([] : va_W) r0) (F0 m 0 ls []) := by
  have hx := X.1
  have hb := X.2.1
  refine lv_iload_n hx hb dX8_madeGood_0 rfl (lv_at hl 1 rfl) ?_
  have e90 := Option.some.inj hf
  subst e90
  exact x_iret X Y dX8_madeGood_1
theorem cK8_madeGood {l : Launch} {Γ : Gm} {Ak : Nat → Nat} {r0 : Int32} {x1 : Int32} (h : K8_madeGood x1 = some r0) : CI l Γ yX8_madeGood (Cond.code yX8_madeGood cX8_madeGood 2 (some .int) :: GW) rmK8_madeGood [.ref (Ak 0), .int x1] ([] : va_W) ([] : va_W) r0 := ofBody (Qc := QcI Γ _ _ r0) (by decide) (Nat.le_of_ble_eq_true rfl) (fun p e s m below meth c ls _ X Y hl => bK8_madeGood_e X h Y hl)
def rmK8_bears : Room := { frames := 0, cells := 0, slots := 0, locals := 0 }
def K8_bears (x1 : Int32) : Option (Int32) := some x1
set_option maxHeartbeats 4000000 in
set_option maxRecDepth 100000 in
theorem bK8_bears_e {Ak : Nat → Nat} {r0 : Int32} {x1 : Int32} (X : Cx Γ p s m args meth c RX8 cX8_bears 2 (some .int) w0) (hf : K8_bears x1 = some r0) (Y : Wd Γ w0 s ([] : va_W) H locs) (hl : lv_has ls 2 [(0, .ref (Ak 0)), (1, .int x1)]) : W p l e rmK8_bears s m args below meth c H locs 0 0 (EI Γ below args s w0 ([] : va_W) r0) (F0 m 0 ls []) := by
  have hx := X.1
  have hb := X.2.1
  refine lv_iload_n hx hb dX8_bears_0 rfl (lv_at hl 1 rfl) ?_
  have e90 := Option.some.inj hf
  subst e90
  exact x_iret X Y dX8_bears_1
theorem cK8_bears {l : Launch} {Γ : Gm} {Ak : Nat → Nat} {r0 : Int32} {x1 : Int32} (h : K8_bears x1 = some r0) : CI l Γ yX8_bears (Cond.code yX8_bears cX8_bears 2 (some .int) :: GW) rmK8_bears [.ref (Ak 0), .int x1] ([] : va_W) ([] : va_W) r0 := ofBody (Qc := QcI Γ _ _ r0) (by decide) (Nat.le_of_ble_eq_true rfl) (fun p e s m below meth c ls _ X Y hl => bK8_bears_e X h Y hl)
def rmK2_madeGood : Room := { frames := 0, cells := 0, slots := 0, locals := 0 }
def K2_madeGood (x1 : Int32) : Option (Int32) := some (0 : Int32)
set_option maxHeartbeats 4000000 in
set_option maxRecDepth 100000 in
theorem bK2_madeGood_e {Ak : Nat → Nat} {r0 : Int32} {x1 : Int32} (X : Cx Γ p s m args meth c RX2 cX2_madeGood 2 (some .int) w0) (hf : K2_madeGood x1 = some r0) (Y : Wd Γ w0 s ([] : va_W) H locs) (hl : lv_has ls 2 [(0, .ref (Ak 0)), (1, .int x1)]) : W p l e rmK2_madeGood s m args below meth c H locs 0 0 (EI Γ below args s w0 ([] : va_W) r0) (F0 m 0 ls []) := by
  have hx := X.1
  have hb := X.2.1
  refine lv_iconst (v := (0 : Int32)) hx hb dX2_madeGood_0 (by decide) ?_
  have e90 := Option.some.inj hf
  subst e90
  exact x_iret X Y dX2_madeGood_1
theorem cK2_madeGood {l : Launch} {Γ : Gm} {Ak : Nat → Nat} {r0 : Int32} {x1 : Int32} (h : K2_madeGood x1 = some r0) : CI l Γ yX2_madeGood (Cond.code yX2_madeGood cX2_madeGood 2 (some .int) :: GW) rmK2_madeGood [.ref (Ak 0), .int x1] ([] : va_W) ([] : va_W) r0 := ofBody (Qc := QcI Γ _ _ r0) (by decide) (Nat.le_of_ble_eq_true rfl) (fun p e s m below meth c ls _ X Y hl => bK2_madeGood_e X h Y hl)
def rmK7_bears : Room := { frames := 0, cells := 0, slots := 0, locals := 0 }
def K7_bears (x1 : Int32) : Option (Int32) := some (0 : Int32)
set_option maxHeartbeats 4000000 in
set_option maxRecDepth 100000 in
theorem bK7_bears_e {Ak : Nat → Nat} {r0 : Int32} {x1 : Int32} (X : Cx Γ p s m args meth c RX7 cX7_bears 2 (some .int) w0) (hf : K7_bears x1 = some r0) (Y : Wd Γ w0 s ([] : va_W) H locs) (hl : lv_has ls 2 [(0, .ref (Ak 0)), (1, .int x1)]) : W p l e rmK7_bears s m args below meth c H locs 0 0 (EI Γ below args s w0 ([] : va_W) r0) (F0 m 0 ls []) := by
  have hx := X.1
  have hb := X.2.1
  refine lv_iconst (v := (0 : Int32)) hx hb dX7_bears_0 (by decide) ?_
  have e90 := Option.some.inj hf
  subst e90
  exact x_iret X Y dX7_bears_1
theorem cK7_bears {l : Launch} {Γ : Gm} {Ak : Nat → Nat} {r0 : Int32} {x1 : Int32} (h : K7_bears x1 = some r0) : CI l Γ yX7_bears (Cond.code yX7_bears cX7_bears 2 (some .int) :: GW) rmK7_bears [.ref (Ak 0), .int x1] ([] : va_W) ([] : va_W) r0 := ofBody (Qc := QcI Γ _ _ r0) (by decide) (Nat.le_of_ble_eq_true rfl) (fun p e s m below meth c ls _ X Y hl => bK7_bears_e X h Y hl)
def rmK5_bears : Room := { frames := 1, cells := 0, slots := 0, locals := 21 }
def K5_bears (x1 : Int32) : Option (Int32) := bd1 (K8_bears x1) (fun (r_1 : Int32) => some (r_1 / (2 : Int32)))
set_option maxHeartbeats 4000000 in
set_option maxRecDepth 100000 in
theorem bK5_bears_e {Ak : Nat → Nat} {r0 : Int32} {x1 : Int32} (X : Cx Γ p s m args meth c RX5 cX5_bears 2 (some .int) w0) (hf : K5_bears x1 = some r0) (Y : Wd Γ w0 s (WK5 Γ Ak) H locs) (hl : lv_has ls 2 [(0, .ref (Ak 0)), (1, .int x1)]) : W p l e rmK5_bears s m args below meth c H locs 0 0 (EI Γ below args s w0 (WK5 Γ Ak) r0) (F0 m 0 ls []) := by
  have hx := X.1
  have hb := X.2.1
  refine lv_aload_n hx hb dX5_bears_0 rfl (lv_at hl 0 rfl) ?_
  refine lv_iload_n hx hb dX5_bears_1 rfl (lv_at hl 1 rfl) ?_
  obtain ⟨r_1, ho_2, hf⟩ := bd1_some hf
  refine t_i Y (bk0 Y) (r_SU (n := 1) (As := [.int x1]) (rest := []) X (c_pre0 X Y) (cK8_bears ho_2) (cw_SU X kw268 kw269 kw270 kw271 kw272 kw273 (by decide +kernel) rfl rfl (by decide)) (X.K.1 5 (RX5, TX5, 0) rfl).2 (va_recv X.K Y.1 (q := (RX5, TX5, 0)) (q0 := 0) (ci := 5) rfl rfl) rfl hl.1 (Nat.le_of_ble_eq_true rfl) rfl dX5_bears_2 ⟨Nat.zero_le _, Nat.zero_le _⟩) (fun H locs Y => ?_)
  refine lv_iconst (v := (2 : Int32)) hx hb dX5_bears_5 (by decide) ?_
  refine lv_idiv hx hb dX5_bears_6 (by decide) ?_
  have e90 := Option.some.inj hf
  subst e90
  exact x_iret X Y dX5_bears_7
theorem cK5_bears {l : Launch} {Γ : Gm} {Ak : Nat → Nat} {r0 : Int32} {x1 : Int32} (h : K5_bears x1 = some r0) : CI l Γ yX5_bears (Cond.code yX5_bears cX5_bears 2 (some .int) :: GW) rmK5_bears [.ref (Ak 0), .int x1] (WK5 Γ Ak) (WK5 Γ Ak) r0 := ofBody (Qc := QcI Γ _ _ r0) (by decide) (Nat.le_of_ble_eq_true rfl) (fun p e s m below meth c ls _ X Y hl => bK5_bears_e X h Y hl)
def rmK9_madeGood : Room := { frames := 1, cells := 0, slots := 0, locals := 21 }
def K9_madeGood (x1 : Int32) : Option (Int32) := bd1 (K8_madeGood x1) (fun (r_1 : Int32) => some ((r_1 * (3 : Int32)) / (4 : Int32)))
set_option maxHeartbeats 4000000 in
set_option maxRecDepth 100000 in
theorem bK9_madeGood_e {Ak : Nat → Nat} {r0 : Int32} {x1 : Int32} (X : Cx Γ p s m args meth c RX9 cX9_madeGood 2 (some .int) w0) (hf : K9_madeGood x1 = some r0) (Y : Wd Γ w0 s (WK9 Γ Ak) H locs) (hl : lv_has ls 2 [(0, .ref (Ak 0)), (1, .int x1)]) : W p l e rmK9_madeGood s m args below meth c H locs 0 0 (EI Γ below args s w0 (WK9 Γ Ak) r0) (F0 m 0 ls []) := by
  have hx := X.1
  have hb := X.2.1
  refine lv_aload_n hx hb dX9_madeGood_0 rfl (lv_at hl 0 rfl) ?_
  refine lv_iload_n hx hb dX9_madeGood_1 rfl (lv_at hl 1 rfl) ?_
  obtain ⟨r_1, ho_2, hf⟩ := bd1_some hf
  refine t_i Y (bk0 Y) (r_SU (n := 1) (As := [.int x1]) (rest := []) X (c_pre0 X Y) (cK8_madeGood ho_2) (cw_SU X kw274 kw275 kw276 kw277 kw272 kw278 (by decide +kernel) rfl rfl (by decide)) (X.K.1 9 (RX9, TX9, 0) rfl).2 (va_recv X.K Y.1 (q := (RX9, TX9, 0)) (q0 := 0) (ci := 9) rfl rfl) rfl hl.1 (Nat.le_of_ble_eq_true rfl) rfl dX9_madeGood_2 ⟨Nat.zero_le _, Nat.zero_le _⟩) (fun H locs Y => ?_)
  refine lv_iconst (v := (3 : Int32)) hx hb dX9_madeGood_5 (by decide) ?_
  refine lv_imul hx hb dX9_madeGood_6 ?_
  refine lv_iconst (v := (4 : Int32)) hx hb dX9_madeGood_7 (by decide) ?_
  refine lv_idiv hx hb dX9_madeGood_8 (by decide) ?_
  have e90 := Option.some.inj hf
  subst e90
  exact x_iret X Y dX9_madeGood_9
theorem cK9_madeGood {l : Launch} {Γ : Gm} {Ak : Nat → Nat} {r0 : Int32} {x1 : Int32} (h : K9_madeGood x1 = some r0) : CI l Γ yX9_madeGood (Cond.code yX9_madeGood cX9_madeGood 2 (some .int) :: GW) rmK9_madeGood [.ref (Ak 0), .int x1] (WK9 Γ Ak) (WK9 Γ Ak) r0 := ofBody (Qc := QcI Γ _ _ r0) (by decide) (Nat.le_of_ble_eq_true rfl) (fun p e s m below meth c ls _ X Y hl => bK9_madeGood_e X h Y hl)
def rmK7_madeGood : Room := { frames := 1, cells := 0, slots := 0, locals := 21 }
def K7_madeGood (x1 : Int32) : Option (Int32) := bd1 (K2_madeGood x1) (fun (r_1 : Int32) => some (r_1 + (5 : Int32)))
set_option maxHeartbeats 4000000 in
set_option maxRecDepth 100000 in
theorem bK7_madeGood_e {Ak : Nat → Nat} {r0 : Int32} {x1 : Int32} (X : Cx Γ p s m args meth c RX7 cX7_madeGood 2 (some .int) w0) (hf : K7_madeGood x1 = some r0) (Y : Wd Γ w0 s (WK7 Γ Ak) H locs) (hl : lv_has ls 2 [(0, .ref (Ak 0)), (1, .int x1)]) : W p l e rmK7_madeGood s m args below meth c H locs 0 0 (EI Γ below args s w0 (WK7 Γ Ak) r0) (F0 m 0 ls []) := by
  have hx := X.1
  have hb := X.2.1
  refine lv_aload_n hx hb dX7_madeGood_0 rfl (lv_at hl 0 rfl) ?_
  refine lv_iload_n hx hb dX7_madeGood_1 rfl (lv_at hl 1 rfl) ?_
  obtain ⟨r_1, ho_2, hf⟩ := bd1_some hf
  refine t_i Y (bk0 Y) (r_SU (n := 1) (As := [.int x1]) (rest := []) X (c_pre0 X Y) (cK2_madeGood ho_2) (cw_SU X kw279 kw280 kw281 kw282 kw283 kw284 (by decide +kernel) rfl rfl (by decide)) (X.K.1 7 (RX7, TX7, 0) rfl).2 (va_recv X.K Y.1 (q := (RX7, TX7, 0)) (q0 := 0) (ci := 7) rfl rfl) rfl hl.1 (Nat.le_of_ble_eq_true rfl) rfl dX7_madeGood_2 ⟨Nat.zero_le _, Nat.zero_le _⟩) (fun H locs Y => ?_)
  refine lv_iconst (v := (5 : Int32)) hx hb dX7_madeGood_5 (by decide) ?_
  refine lv_iadd hx hb dX7_madeGood_6 ?_
  have e90 := Option.some.inj hf
  subst e90
  exact x_iret X Y dX7_madeGood_7
theorem cK7_madeGood {l : Launch} {Γ : Gm} {Ak : Nat → Nat} {r0 : Int32} {x1 : Int32} (h : K7_madeGood x1 = some r0) : CI l Γ yX7_madeGood (Cond.code yX7_madeGood cX7_madeGood 2 (some .int) :: GW) rmK7_madeGood [.ref (Ak 0), .int x1] (WK7 Γ Ak) (WK7 Γ Ak) r0 := ofBody (Qc := QcI Γ _ _ r0) (by decide) (Nat.le_of_ble_eq_true rfl) (fun p e s m below meth c ls _ X Y hl => bK7_madeGood_e X h Y hl)
def rmK9b_madeGood : Room := { frames := 1, cells := 0, slots := 0, locals := 21 }
def K9b_madeGood (x1 : Int32) : Option (Int32) := bd1 (K8_madeGood x1) (fun (r_1 : Int32) => some ((r_1 * (3 : Int32)) / (4 : Int32)))
set_option maxHeartbeats 4000000 in
set_option maxRecDepth 100000 in
theorem bK9b_madeGood_e {Ak : Nat → Nat} {r0 : Int32} {x1 : Int32} (X : Cx Γ p s m args meth c RX9 cX9_madeGood 2 (some .int) w0) (hf : K9b_madeGood x1 = some r0) (Y : Wd Γ w0 s (WK4 Γ Ak) H locs) (hl : lv_has ls 2 [(0, .ref (Ak 0)), (1, .int x1)]) : W p l e rmK9b_madeGood s m args below meth c H locs 0 0 (EI Γ below args s w0 (WK4 Γ Ak) r0) (F0 m 0 ls []) := by
  have hx := X.1
  have hb := X.2.1
  refine lv_aload_n hx hb dX9_madeGood_0 rfl (lv_at hl 0 rfl) ?_
  refine lv_iload_n hx hb dX9_madeGood_1 rfl (lv_at hl 1 rfl) ?_
  obtain ⟨r_1, ho_2, hf⟩ := bd1_some hf
  refine t_i Y (bk0 Y) (r_SU (n := 1) (As := [.int x1]) (rest := []) X (c_pre0 X Y) (cK8_madeGood ho_2) (cw_SU X kw274 kw275 kw276 kw277 kw272 kw278 (by decide +kernel) rfl rfl (by decide)) (X.K.1 4 (RX4, TX4, 0) rfl).2 (va_recv X.K Y.1 (q := (RX4, TX4, 0)) (q0 := 0) (ci := 4) rfl rfl) rfl hl.1 (Nat.le_of_ble_eq_true rfl) rfl dX9_madeGood_2 ⟨Nat.zero_le _, Nat.zero_le _⟩) (fun H locs Y => ?_)
  refine lv_iconst (v := (3 : Int32)) hx hb dX9_madeGood_5 (by decide) ?_
  refine lv_imul hx hb dX9_madeGood_6 ?_
  refine lv_iconst (v := (4 : Int32)) hx hb dX9_madeGood_7 (by decide) ?_
  refine lv_idiv hx hb dX9_madeGood_8 (by decide) ?_
  have e90 := Option.some.inj hf
  subst e90
  exact x_iret X Y dX9_madeGood_9
theorem cK9b_madeGood {l : Launch} {Γ : Gm} {Ak : Nat → Nat} {r0 : Int32} {x1 : Int32} (h : K9b_madeGood x1 = some r0) : CI l Γ yX9_madeGood (Cond.code yX9_madeGood cX9_madeGood 2 (some .int) :: GW) rmK9b_madeGood [.ref (Ak 0), .int x1] (WK4 Γ Ak) (WK4 Γ Ak) r0 := ofBody (Qc := QcI Γ _ _ r0) (by decide) (Nat.le_of_ble_eq_true rfl) (fun p e s m below meth c ls _ X Y hl => bK9b_madeGood_e X h Y hl)
def rmK4_madeGood : Room := { frames := 2, cells := 0, slots := 0, locals := 42 }
def K4_madeGood (x1 : Int32) : Option (Int32) := bd1 (K9b_madeGood x1) (fun (r_1 : Int32) => some (r_1 / (2 : Int32)))
set_option maxHeartbeats 4000000 in
set_option maxRecDepth 100000 in
theorem bK4_madeGood_e {Ak : Nat → Nat} {r0 : Int32} {x1 : Int32} (X : Cx Γ p s m args meth c RX4 cX4_madeGood 2 (some .int) w0) (hf : K4_madeGood x1 = some r0) (Y : Wd Γ w0 s (WK4 Γ Ak) H locs) (hl : lv_has ls 2 [(0, .ref (Ak 0)), (1, .int x1)]) : W p l e rmK4_madeGood s m args below meth c H locs 0 0 (EI Γ below args s w0 (WK4 Γ Ak) r0) (F0 m 0 ls []) := by
  have hx := X.1
  have hb := X.2.1
  refine lv_aload_n hx hb dX4_madeGood_0 rfl (lv_at hl 0 rfl) ?_
  refine lv_iload_n hx hb dX4_madeGood_1 rfl (lv_at hl 1 rfl) ?_
  obtain ⟨r_1, ho_2, hf⟩ := bd1_some hf
  refine t_i Y (bkS Y) (r_SU (n := 1) (As := [.int x1]) (rest := []) X (c_preS X Y) (cK9b_madeGood ho_2) (cw_SU X kw285 kw286 kw287 kw288 kw289 kw290 (by decide +kernel) rfl rfl (by decide)) (X.K.1 4 (RX4, TX4, 0) rfl).2 (va_recv X.K Y.1 (q := (RX4, TX4, 0)) (q0 := 0) (ci := 4) rfl rfl) rfl hl.1 (Nat.le_of_ble_eq_true rfl) rfl dX4_madeGood_2 ⟨Nat.zero_le _, Nat.zero_le _⟩) (fun H locs Y => ?_)
  refine lv_iconst (v := (2 : Int32)) hx hb dX4_madeGood_5 (by decide) ?_
  refine lv_idiv hx hb dX4_madeGood_6 (by decide) ?_
  have e90 := Option.some.inj hf
  subst e90
  exact x_iret X Y dX4_madeGood_7
theorem cK4_madeGood {l : Launch} {Γ : Gm} {Ak : Nat → Nat} {r0 : Int32} {x1 : Int32} (h : K4_madeGood x1 = some r0) : CI l Γ yX4_madeGood (Cond.code yX4_madeGood cX4_madeGood 2 (some .int) :: GW) rmK4_madeGood [.ref (Ak 0), .int x1] (WK4 Γ Ak) (WK4 Γ Ak) r0 := ofBody (Qc := QcI Γ _ _ r0) (by decide) (Nat.le_of_ble_eq_true rfl) (fun p e s m below meth c ls _ X Y hl => bK4_madeGood_e X h Y hl)
def rmK4_bears : Room := { frames := 1, cells := 0, slots := 0, locals := 21 }
def K4_bears (x1 : Int32) : Option (Int32) := bd1 (K8_bears x1) (fun (r_1 : Int32) => some (r_1 + (3 : Int32)))
set_option maxHeartbeats 4000000 in
set_option maxRecDepth 100000 in
theorem bK4_bears_e {Ak : Nat → Nat} {r0 : Int32} {x1 : Int32} (X : Cx Γ p s m args meth c RX4 cX4_bears 2 (some .int) w0) (hf : K4_bears x1 = some r0) (Y : Wd Γ w0 s (WK4 Γ Ak) H locs) (hl : lv_has ls 2 [(0, .ref (Ak 0)), (1, .int x1)]) : W p l e rmK4_bears s m args below meth c H locs 0 0 (EI Γ below args s w0 (WK4 Γ Ak) r0) (F0 m 0 ls []) := by
  have hx := X.1
  have hb := X.2.1
  refine lv_aload_n hx hb dX4_bears_0 rfl (lv_at hl 0 rfl) ?_
  refine lv_iload_n hx hb dX4_bears_1 rfl (lv_at hl 1 rfl) ?_
  obtain ⟨r_1, ho_2, hf⟩ := bd1_some hf
  refine t_i Y (bk0 Y) (r_SX (n := 1) (As := [.int x1]) (rest := []) (x := ⟨RX9, "bears", "(I)I"⟩) (owner := RX8) X (c_pre0 X Y) (cK8_bears ho_2) rfl kw291 kw292 kw287 kw276 kw271 kw272 kw273 (by decide) (by decide +kernel) rfl rfl (by decide) (X.K.1 4 (RX4, TX4, 0) rfl).2 (va_recv X.K Y.1 (q := (RX4, TX4, 0)) (q0 := 0) (ci := 4) rfl rfl) rfl hl.1 (Nat.le_of_ble_eq_true rfl) rfl dX4_bears_2 ⟨Nat.zero_le _, Nat.zero_le _⟩) (fun H locs Y => ?_)
  refine lv_iconst (v := (3 : Int32)) hx hb dX4_bears_5 (by decide) ?_
  refine lv_iadd hx hb dX4_bears_6 ?_
  have e90 := Option.some.inj hf
  subst e90
  exact x_iret X Y dX4_bears_7
theorem cK4_bears {l : Launch} {Γ : Gm} {Ak : Nat → Nat} {r0 : Int32} {x1 : Int32} (h : K4_bears x1 = some r0) : CI l Γ yX4_bears (Cond.code yX4_bears cX4_bears 2 (some .int) :: GW) rmK4_bears [.ref (Ak 0), .int x1] (WK4 Γ Ak) (WK4 Γ Ak) r0 := ofBody (Qc := QcI Γ _ _ r0) (by decide) (Nat.le_of_ble_eq_true rfl) (fun p e s m below meth c ls _ X Y hl => bK4_bears_e X h Y hl)
def K_bears (j : Nat) (t : Int32) : Option Int32 := if j = 0 then K8_bears t else (if j = 1 then K8_bears t else (if j = 2 then K5_bears t else (if j = 3 then K8_bears t else (if j = 4 then K7_bears t else (if j = 5 then K4_bears t else (none))))))
theorem kd_bears {Ab : Nat → Nat} {j : Nat} {t r : Int32} (X : Cx Γ p s m args meth c RX0 cc nL ret w0) (Y : Wd Γ w0 s ws H locs) (h0 : ws[2]? = some (Ab 2, .inr (8, []))) (h1 : ws[3]? = some (Ab 3, .inr (2, []))) (h2 : ws[4]? = some (Ab 4, .inr (5, []))) (h3 : ws[5]? = some (Ab 5, .inr (9, []))) (h4 : ws[6]? = some (Ab 6, .inr (7, []))) (h5 : ws[7]? = some (Ab 7, .inr (4, []))) (ho : K_bears j t = some r) (hsz : ls.size = nL) (hW : (rest.map fun v => v.category).sum ≤ 8) (hdg : decode cc pc = .ok (.invokevirtual 70, 3)) (hR : 2 ≤ R.frames ∧ 42 ≤ R.locals) (hc1 : cells + 0 ≤ R.cells) (hc2 : slots + 0 ≤ R.slots) (kk : ∀ (H1 : Heap) (locs1 : List Loc), Wd Γ w0 s ws H1 locs1 → W p l e R s m args below meth c H1 locs1 cells slots Q (F0 m (pc + 3) ls (.int r :: rest))) : W p l e R s m args below meth c H locs cells slots Q (F0 m pc ls (.int t :: .ref (Ab (2 + j)) :: rest)) := by
  unfold K_bears at ho
  by_cases e0 : j = 0
  · have ho := ite_t ho e0
    subst e0
    exact t_i Y (bk0 Y) (r_U (n := 1) (As := [.int t]) (rest := rest) (C := RX8) (owner := RX8) X (c_pre0 X Y) (cK8_bears (Ak := fun _ => Ab 2) ho) (cw_O X kw293 kw269 kw271 kw294 kw271 kw272 kw273 kw273 (by decide +kernel) rfl rfl ⟨Nat.le_trans (by decide) hR.1, Nat.le_trans (by decide) hR.2⟩) (va_recv X.K Y.1 (q := (RX8, TX8, 0)) (q0 := 2) (ci := 8) rfl h0) rfl hsz hW rfl hdg ⟨hc1, hc2⟩) kk
  have ho := ite_f ho e0
  by_cases e1 : j = 1
  · have ho := ite_t ho e1
    subst e1
    exact t_i Y (bk0 Y) (r_U (n := 1) (As := [.int t]) (rest := rest) (C := RX2) (owner := RX8) X (c_pre0 X Y) (cK8_bears (Ak := fun _ => Ab 3) ho) (cw_O X kw293 kw269 kw271 kw295 kw271 kw272 kw273 kw273 (by decide +kernel) rfl rfl ⟨Nat.le_trans (by decide) hR.1, Nat.le_trans (by decide) hR.2⟩) (va_recv X.K Y.1 (q := (RX2, TX2, 0)) (q0 := 3) (ci := 2) rfl h1) rfl hsz hW rfl hdg ⟨hc1, hc2⟩) kk
  have ho := ite_f ho e1
  by_cases e2 : j = 2
  · have ho := ite_t ho e2
    subst e2
    exact t_i Y (bkE (wc := WK5 Γ (fun _ => Ab 4)) Y [4] (congrArg (fun z => [z]) h2)) (r_U (n := 1) (As := [.int t]) (rest := rest) (C := RX5) (owner := RX8) X (c_pre (wc := WK5 Γ (fun _ => Ab 4)) X Y [4] (congrArg (fun z => [z]) h2) rfl) (cK5_bears (Ak := fun _ => Ab 4) ho) (cw_O X kw293 kw269 kw271 kw296 kw297 kw298 kw299 kw273 (by decide +kernel) rfl rfl ⟨Nat.le_trans (by decide) hR.1, Nat.le_trans (by decide) hR.2⟩) (va_recv X.K Y.1 (q := (RX5, TX5, 0)) (q0 := 4) (ci := 5) rfl h2) rfl hsz hW rfl hdg ⟨hc1, hc2⟩) kk
  have ho := ite_f ho e2
  by_cases e3 : j = 3
  · have ho := ite_t ho e3
    subst e3
    exact t_i Y (bk0 Y) (r_U (n := 1) (As := [.int t]) (rest := rest) (C := RX9) (owner := RX8) X (c_pre0 X Y) (cK8_bears (Ak := fun _ => Ab 5) ho) (cw_O X kw293 kw269 kw271 kw300 kw271 kw272 kw273 kw273 (by decide +kernel) rfl rfl ⟨Nat.le_trans (by decide) hR.1, Nat.le_trans (by decide) hR.2⟩) (va_recv X.K Y.1 (q := (RX9, TX9, 0)) (q0 := 5) (ci := 9) rfl h3) rfl hsz hW rfl hdg ⟨hc1, hc2⟩) kk
  have ho := ite_f ho e3
  by_cases e4 : j = 4
  · have ho := ite_t ho e4
    subst e4
    exact t_i Y (bk0 Y) (r_U (n := 1) (As := [.int t]) (rest := rest) (C := RX7) (owner := RX8) X (c_pre0 X Y) (cK7_bears (Ak := fun _ => Ab 6) ho) (cw_O X kw293 kw269 kw271 kw301 kw302 kw303 kw304 kw273 (by decide +kernel) rfl rfl ⟨Nat.le_trans (by decide) hR.1, Nat.le_trans (by decide) hR.2⟩) (va_recv X.K Y.1 (q := (RX7, TX7, 0)) (q0 := 6) (ci := 7) rfl h4) rfl hsz hW rfl hdg ⟨hc1, hc2⟩) kk
  have ho := ite_f ho e4
  by_cases e5 : j = 5
  · have ho := ite_t ho e5
    subst e5
    exact t_i Y (bkE (wc := WK4 Γ (fun _ => Ab 7)) Y [7] (congrArg (fun z => [z]) h5)) (r_U (n := 1) (As := [.int t]) (rest := rest) (C := RX4) (owner := RX8) X (c_pre (wc := WK4 Γ (fun _ => Ab 7)) X Y [7] (congrArg (fun z => [z]) h5) rfl) (cK4_bears (Ak := fun _ => Ab 7) ho) (cw_O X kw293 kw269 kw271 kw305 kw306 kw307 kw308 kw273 (by decide +kernel) rfl rfl ⟨Nat.le_trans (by decide) hR.1, Nat.le_trans (by decide) hR.2⟩) (va_recv X.K Y.1 (q := (RX4, TX4, 0)) (q0 := 7) (ci := 4) rfl h5) rfl hsz hW rfl hdg ⟨hc1, hc2⟩) kk
  have ho := ite_f ho e5
  cases ho
def K_madeGood (j : Nat) (t : Int32) : Option Int32 := if j = 0 then K8_madeGood t else (if j = 1 then K2_madeGood t else (if j = 2 then K8_madeGood t else (if j = 3 then K9_madeGood t else (if j = 4 then K7_madeGood t else (if j = 5 then K4_madeGood t else (none))))))
theorem kd_madeGood {Ab : Nat → Nat} {j : Nat} {t r : Int32} (X : Cx Γ p s m args meth c RX0 cc nL ret w0) (Y : Wd Γ w0 s ws H locs) (h0 : ws[2]? = some (Ab 2, .inr (8, []))) (h1 : ws[3]? = some (Ab 3, .inr (2, []))) (h2 : ws[4]? = some (Ab 4, .inr (5, []))) (h3 : ws[5]? = some (Ab 5, .inr (9, []))) (h4 : ws[6]? = some (Ab 6, .inr (7, []))) (h5 : ws[7]? = some (Ab 7, .inr (4, []))) (ho : K_madeGood j t = some r) (hsz : ls.size = nL) (hW : (rest.map fun v => v.category).sum ≤ 8) (hdg : decode cc pc = .ok (.invokevirtual 81, 3)) (hR : 3 ≤ R.frames ∧ 63 ≤ R.locals) (hc1 : cells + 0 ≤ R.cells) (hc2 : slots + 0 ≤ R.slots) (kk : ∀ (H1 : Heap) (locs1 : List Loc), Wd Γ w0 s ws H1 locs1 → W p l e R s m args below meth c H1 locs1 cells slots Q (F0 m (pc + 3) ls (.int r :: rest))) : W p l e R s m args below meth c H locs cells slots Q (F0 m pc ls (.int t :: .ref (Ab (2 + j)) :: rest)) := by
  unfold K_madeGood at ho
  by_cases e0 : j = 0
  · have ho := ite_t ho e0
    subst e0
    exact t_i Y (bk0 Y) (r_U (n := 1) (As := [.int t]) (rest := rest) (C := RX8) (owner := RX8) X (c_pre0 X Y) (cK8_madeGood (Ak := fun _ => Ab 2) ho) (cw_O X kw309 kw275 kw277 kw310 kw277 kw272 kw278 kw278 (by decide +kernel) rfl rfl ⟨Nat.le_trans (by decide) hR.1, Nat.le_trans (by decide) hR.2⟩) (va_recv X.K Y.1 (q := (RX8, TX8, 0)) (q0 := 2) (ci := 8) rfl h0) rfl hsz hW rfl hdg ⟨hc1, hc2⟩) kk
  have ho := ite_f ho e0
  by_cases e1 : j = 1
  · have ho := ite_t ho e1
    subst e1
    exact t_i Y (bk0 Y) (r_U (n := 1) (As := [.int t]) (rest := rest) (C := RX2) (owner := RX8) X (c_pre0 X Y) (cK2_madeGood (Ak := fun _ => Ab 3) ho) (cw_O X kw309 kw275 kw277 kw311 kw282 kw283 kw284 kw278 (by decide +kernel) rfl rfl ⟨Nat.le_trans (by decide) hR.1, Nat.le_trans (by decide) hR.2⟩) (va_recv X.K Y.1 (q := (RX2, TX2, 0)) (q0 := 3) (ci := 2) rfl h1) rfl hsz hW rfl hdg ⟨hc1, hc2⟩) kk
  have ho := ite_f ho e1
  by_cases e2 : j = 2
  · have ho := ite_t ho e2
    subst e2
    exact t_i Y (bk0 Y) (r_U (n := 1) (As := [.int t]) (rest := rest) (C := RX5) (owner := RX8) X (c_pre0 X Y) (cK8_madeGood (Ak := fun _ => Ab 4) ho) (cw_O X kw309 kw275 kw277 kw312 kw277 kw272 kw278 kw278 (by decide +kernel) rfl rfl ⟨Nat.le_trans (by decide) hR.1, Nat.le_trans (by decide) hR.2⟩) (va_recv X.K Y.1 (q := (RX5, TX5, 0)) (q0 := 4) (ci := 5) rfl h2) rfl hsz hW rfl hdg ⟨hc1, hc2⟩) kk
  have ho := ite_f ho e2
  by_cases e3 : j = 3
  · have ho := ite_t ho e3
    subst e3
    exact t_i Y (bkE (wc := WK9 Γ (fun _ => Ab 5)) Y [5] (congrArg (fun z => [z]) h3)) (r_U (n := 1) (As := [.int t]) (rest := rest) (C := RX9) (owner := RX8) X (c_pre (wc := WK9 Γ (fun _ => Ab 5)) X Y [5] (congrArg (fun z => [z]) h3) rfl) (cK9_madeGood (Ak := fun _ => Ab 5) ho) (cw_O X kw309 kw275 kw277 kw313 kw288 kw289 kw290 kw278 (by decide +kernel) rfl rfl ⟨Nat.le_trans (by decide) hR.1, Nat.le_trans (by decide) hR.2⟩) (va_recv X.K Y.1 (q := (RX9, TX9, 0)) (q0 := 5) (ci := 9) rfl h3) rfl hsz hW rfl hdg ⟨hc1, hc2⟩) kk
  have ho := ite_f ho e3
  by_cases e4 : j = 4
  · have ho := ite_t ho e4
    subst e4
    exact t_i Y (bkE (wc := WK7 Γ (fun _ => Ab 6)) Y [6] (congrArg (fun z => [z]) h4)) (r_U (n := 1) (As := [.int t]) (rest := rest) (C := RX7) (owner := RX8) X (c_pre (wc := WK7 Γ (fun _ => Ab 6)) X Y [6] (congrArg (fun z => [z]) h4) rfl) (cK7_madeGood (Ak := fun _ => Ab 6) ho) (cw_O X kw309 kw275 kw277 kw314 kw315 kw303 kw316 kw278 (by decide +kernel) rfl rfl ⟨Nat.le_trans (by decide) hR.1, Nat.le_trans (by decide) hR.2⟩) (va_recv X.K Y.1 (q := (RX7, TX7, 0)) (q0 := 6) (ci := 7) rfl h4) rfl hsz hW rfl hdg ⟨hc1, hc2⟩) kk
  have ho := ite_f ho e4
  by_cases e5 : j = 5
  · have ho := ite_t ho e5
    subst e5
    exact t_i Y (bkE (wc := WK4 Γ (fun _ => Ab 7)) Y [7] (congrArg (fun z => [z]) h5)) (r_U (n := 1) (As := [.int t]) (rest := rest) (C := RX4) (owner := RX8) X (c_pre (wc := WK4 Γ (fun _ => Ab 7)) X Y [7] (congrArg (fun z => [z]) h5) rfl) (cK4_madeGood (Ak := fun _ => Ab 7) ho) (cw_O X kw309 kw275 kw277 kw317 kw318 kw307 kw319 kw278 (by decide +kernel) rfl rfl ⟨Nat.le_trans (by decide) hR.1, Nat.le_trans (by decide) hR.2⟩) (va_recv X.K Y.1 (q := (RX4, TX4, 0)) (q0 := 7) (ci := 4) rfl h5) rfl hsz hW rfl hdg ⟨hc1, hc2⟩) kk
  have ho := ite_f ho e5
  cases ho
theorem gfX0_11 (X : Cx Γ p s m args meth c RX0 cc nL ret w0) (Y : Wd Γ w0 s ws H locs) {v : Value} (q0 : Nat) {fs : List Value} (he : ws[q0]? = some (a, .inr (0, fs))) (hv : fs[0]? = some v) (hdg : decode cc pc = .ok (.getfield 11, 3)) (kk : W p l e R s m args below meth c H locs cells slots Q (F0 m (pc + 3) ls (v :: rest))) : W p l e R s m args below meth c H locs cells slots Q (F0 m pc ls (.ref a :: rest)) := x_get X Y iX0 rfl 0 (by decide) rfl kw320 q0 he hv hdg kk
theorem cwX0_84 (X : Cx Γ p s m args meth c RX0 cc nL ret w0) (hR : rmX_within.frames + 1 ≤ R.frames ∧ 8 + (3 + 11) + rmX_within.locals ≤ R.locals) : va_CN R s args RX0 84 yX11_within "ThrownOver" cX11_within 3 (some .boolean) (Cond.code yX11_within cX11_within 3 (some .boolean) :: GW) rmX_within 0 0 3 ∧ (Cond.static yX11_within).before args s = true ∧ True := cw_SN X kw321 kw219 kw220 kw221 dmX11_withinS rfl rfl hR
theorem cwX0_43 (X : Cx Γ p s m args meth c RX0 cc nL ret w0) (hR : rmC_fact.frames + 1 ≤ R.frames ∧ 8 + (3 + 11) + rmC_fact.locals ≤ R.locals) : CallW R s args RX0 RX1 43 yX1_fact cX1_fact 3 (some .int) (Cond.code yX1_fact cX1_fact 3 (some .int) :: GW) rmC_fact 0 0 2 := cw_V X kw322 kw245 kw246 kw228 kw247 dmX1_factV rfl rfl hR
def rmB_kindOf : Room := { frames := 2, cells := 0, slots := 0, locals := 44 }
def B_kindOf_25 (y0 : Int32) (csi : Int32) (cfa : Nat → Int32) : Option (Nat) := ck (inb y0 6) (some y0.toNatClampNeg)
set_option maxHeartbeats 4000000 in
set_option maxRecDepth 100000 in
theorem bB_kindOf_25 {Ab : Nat → Nat} {Ac : Nat → Nat} {blo : Int32} {bwh : Int32} {bow : Int32} {bom : Int32} {csw : Int32} {cca : Int32} {csi : Int32} {cab : Int32} {cun : Int32} {csg : Int32} {cfa : Nat → Int32} {che : Nat → Int32} {cst : Nat → Int32} {r0 : Nat} {y0 : Int32} (X : Cx Γ p s m args meth c RX0 cX0_kindOf 4 (some (.object "ThrownOver$PlainKind")) w0) (hf : B_kindOf_25 y0 csi cfa = some r0) (Y : Wd Γ w0 s ((WB Γ Ab blo bwh bow bom) ++ (WC Γ Ac csw cca csi cab cun csg cfa che cst)) H locs) (hl : lv_has ls 4 []) : W p l e rmB_kindOf s m args below meth c H locs 0 0 (ER Γ below args s w0 ((WB Γ Ab blo bwh bow bom) ++ (WC Γ Ac csw cca csi cab cun csg cfa che cst)) (Ab (2 + r0))) (F0 m 25 ls [.int y0, .ref (Ab 1)]) := by
  have hx := X.1
  have hb := X.2.1
  obtain ⟨hi_1, hf⟩ := ck_some hf
  refine x_aald X Y 1 3 rfl rfl hi_1 (v := .ref (Ab (2 + y0.toNatClampNeg))) rfl dX0_kindOf_25 ?_
  have e90 := Option.some.inj hf
  subst e90
  exact x_aret X Y dX0_kindOf_26
def B_kindOf (x2 : Int32) (csi : Int32) (cfa : Nat → Int32) : Option (Nat) := bd1 (C_fact x2 (0 : Int32) csi cfa) (fun (r_1 : Int32) => bd1 (X_within r_1 (0 : Int32) (5 : Int32)) (fun (r_2 : Int32) => if r_2 = 0 then (B_kindOf_25 (0 : Int32) csi cfa) else (B_kindOf_25 r_1 csi cfa)))
set_option maxHeartbeats 4000000 in
set_option maxRecDepth 100000 in
theorem bB_kindOf_e {Ab : Nat → Nat} {Ac : Nat → Nat} {blo : Int32} {bwh : Int32} {bow : Int32} {bom : Int32} {csw : Int32} {cca : Int32} {csi : Int32} {cab : Int32} {cun : Int32} {csg : Int32} {cfa : Nat → Int32} {che : Nat → Int32} {cst : Nat → Int32} {r0 : Nat} {x2 : Int32} (X : Cx Γ p s m args meth c RX0 cX0_kindOf 4 (some (.object "ThrownOver$PlainKind")) w0) (hf : B_kindOf x2 csi cfa = some r0) (Y : Wd Γ w0 s ((WB Γ Ab blo bwh bow bom) ++ (WC Γ Ac csw cca csi cab cun csg cfa che cst)) H locs) (hl : lv_has ls 4 [(0, .ref (Ab 0)), (1, .ref (Ac 0)), (2, .int x2)]) : W p l e rmB_kindOf s m args below meth c H locs 0 0 (ER Γ below args s w0 ((WB Γ Ab blo bwh bow bom) ++ (WC Γ Ac csw cca csi cab cun csg cfa che cst)) (Ab (2 + r0))) (F0 m 0 ls []) := by
  have hx := X.1
  have hb := X.2.1
  refine lv_aload_n hx hb dX0_kindOf_0 rfl (lv_at hl 1 rfl) ?_
  refine lv_iload_n hx hb dX0_kindOf_1 rfl (lv_at hl 2 rfl) ?_
  refine lv_iconst (v := (0 : Int32)) hx hb dX0_kindOf_2 (by decide) ?_
  obtain ⟨r_1, ho_5, hf⟩ := bd1_some hf
  refine t_i Y (bkE Y [8, 9, 10, 11] rfl) (r_V (As := [.int x2, .int (0 : Int32)]) (rest := []) X (c_pre X Y [8, 9, 10, 11] rfl rfl) (cC_fact ho_5) (cwX0_43 X (by decide)) (va_recv X.K Y.1 (q := (RX1, TX1, 9)) (q0 := 8) (ci := 1) rfl rfl) rfl hl.1 (Nat.le_of_ble_eq_true rfl) rfl dX0_kindOf_3 ⟨Nat.zero_le _, Nat.zero_le _⟩) (fun H locs Y => ?_)
  refine lv_istore_n (lv' := [(3, .int r_1), (0, .ref (Ab 0)), (1, .ref (Ac 0)), (2, .int x2)]) hx hb dX0_kindOf_6 rfl hl (by decide) rfl (fun ls hl => ?_)
  refine lv_aload_n hx hb dX0_kindOf_7 rfl (lv_at hl 1 rfl) ?_
  refine gfX0_11 X Y (v := .ref (Ab 1)) 0 rfl rfl dX0_kindOf_8 ?_
  refine lv_iload_n hx hb dX0_kindOf_11 rfl (lv_at hl 0 rfl) ?_
  refine lv_iconst (v := (0 : Int32)) hx hb dX0_kindOf_12 (by decide) ?_
  refine lv_iconst (v := (5 : Int32)) hx hb dX0_kindOf_13 (by decide) ?_
  obtain ⟨r_2, ho_4, hf⟩ := bd1_some hf
  refine t_i Y (bk0 Y) (r_SN (As := [.int r_1, .int (0 : Int32), .int (5 : Int32)]) (rest := [.ref (Ab 1)]) X (c_pre0 X Y) (cX_within ho_4) (cwX0_84 X (by decide)) rfl hl.1 (Nat.le_of_ble_eq_true rfl) rfl dX0_kindOf_14 ⟨Nat.zero_le _, Nat.zero_le _⟩) (fun H locs Y => ?_)
  refine lv_if_eq (tgt := 24) hx hb dX0_kindOf_17 (by decide) (fun c_3 => ?_) (fun c_3 => ?_)
  · have hf := ite_t hf c_3
    refine lv_iconst (v := (0 : Int32)) hx hb dX0_kindOf_24 (by decide) ?_
    exact bB_kindOf_25 X hf Y (lv_sub hl [] rfl)
  · have hf := ite_f hf c_3
    refine lv_iload_n hx hb dX0_kindOf_20 rfl (lv_at hl 0 rfl) ?_
    refine lv_goto (tgt := 25) hx hb dX0_kindOf_21 (by decide) ?_
    exact bB_kindOf_25 X hf Y (lv_sub hl [] rfl)
theorem cB_kindOf {l : Launch} {Γ : Gm} {Ab : Nat → Nat} {Ac : Nat → Nat} {blo : Int32} {bwh : Int32} {bow : Int32} {bom : Int32} {csw : Int32} {cca : Int32} {csi : Int32} {cab : Int32} {cun : Int32} {csg : Int32} {cfa : Nat → Int32} {che : Nat → Int32} {cst : Nat → Int32} {r0 : Nat} {x2 : Int32} (h : B_kindOf x2 csi cfa = some r0) : CR l Γ yX0_kindOf (Cond.code yX0_kindOf cX0_kindOf 4 (some (.object "ThrownOver$PlainKind")) :: GW) rmB_kindOf [.ref (Ab 0), .ref (Ac 0), .int x2] ((WB Γ Ab blo bwh bow bom) ++ (WC Γ Ac csw cca csi cab cun csg cfa che cst)) ((WB Γ Ab blo bwh bow bom) ++ (WC Γ Ac csw cca csi cab cun csg cfa che cst)) (Ab (2 + r0)) := ofBody (Qc := QcR Γ _ _ (Ab (2 + r0))) (by decide) (Nat.le_of_ble_eq_true rfl) (fun p e s m below meth c ls _ X Y hl => bB_kindOf_e X h Y hl)
theorem pfX0_51 (X : Cx Γ p s m args meth c RX0 cc nL ret w0) (Y : Wd Γ w0 s ws H locs) (q0 : Nat) {fs : List Value} (he : ws[q0]? = some (a, .inr (0, fs))) {v : Value} (hn : narrow (tyX0 1) v = v) (hfit : fits (tyX0 1) v = true) (hl : 1 < fs.length) (hw : ws.set q0 (a, .inr (0, fs.set 1 v)) = ws') (hdg : decode cc pc = .ok (.putfield 51, 3)) (kk : ∀ (H1 : Heap) (locs1 : List Loc), Wd Γ w0 s ws' H1 locs1 → W p l e R s m args below meth c H1 locs1 cells slots Q (F0 m (pc + 3) ls rest)) : W p l e R s m args below meth c H locs cells slots Q (F0 m pc ls (v :: .ref a :: rest)) := x_put X Y iX0 tyX0 tyX0_ok nmX0 rfl 1 (by decide) rfl kw323 rfl q0 he hn hfit hl hw hdg kk
theorem gfX0_54 (X : Cx Γ p s m args meth c RX0 cc nL ret w0) (Y : Wd Γ w0 s ws H locs) {v : Value} (q0 : Nat) {fs : List Value} (he : ws[q0]? = some (a, .inr (1, fs))) (hv : fs[0]? = some v) (hdg : decode cc pc = .ok (.getfield 54, 3)) (kk : W p l e R s m args below meth c H locs cells slots Q (F0 m (pc + 3) ls (v :: rest))) : W p l e R s m args below meth c H locs cells slots Q (F0 m pc ls (.ref a :: rest)) := x_getN X Y iX1 rfl 0 (by decide) rfl kw324 q0 he hv hdg kk
theorem pfX0_57 (X : Cx Γ p s m args meth c RX0 cc nL ret w0) (Y : Wd Γ w0 s ws H locs) (q0 : Nat) {fs : List Value} (he : ws[q0]? = some (a, .inr (0, fs))) {v : Value} (hn : narrow (tyX0 2) v = v) (hfit : fits (tyX0 2) v = true) (hl : 2 < fs.length) (hw : ws.set q0 (a, .inr (0, fs.set 2 v)) = ws') (hdg : decode cc pc = .ok (.putfield 57, 3)) (kk : ∀ (H1 : Heap) (locs1 : List Loc), Wd Γ w0 s ws' H1 locs1 → W p l e R s m args below meth c H1 locs1 cells slots Q (F0 m (pc + 3) ls rest)) : W p l e R s m args below meth c H locs cells slots Q (F0 m pc ls (v :: .ref a :: rest)) := x_put X Y iX0 tyX0 tyX0_ok nmX0 rfl 2 (by decide) rfl kw325 rfl q0 he hn hfit hl hw hdg kk
theorem pfX0_60 (X : Cx Γ p s m args meth c RX0 cc nL ret w0) (Y : Wd Γ w0 s ws H locs) (q0 : Nat) {fs : List Value} (he : ws[q0]? = some (a, .inr (0, fs))) {v : Value} (hn : narrow (tyX0 3) v = v) (hfit : fits (tyX0 3) v = true) (hl : 3 < fs.length) (hw : ws.set q0 (a, .inr (0, fs.set 3 v)) = ws') (hdg : decode cc pc = .ok (.putfield 60, 3)) (kk : ∀ (H1 : Heap) (locs1 : List Loc), Wd Γ w0 s ws' H1 locs1 → W p l e R s m args below meth c H1 locs1 cells slots Q (F0 m (pc + 3) ls rest)) : W p l e R s m args below meth c H locs cells slots Q (F0 m pc ls (v :: .ref a :: rest)) := x_put X Y iX0 tyX0 tyX0_ok nmX0 rfl 3 (by decide) rfl kw326 rfl q0 he hn hfit hl hw hdg kk
theorem pfX0_63 (X : Cx Γ p s m args meth c RX0 cc nL ret w0) (Y : Wd Γ w0 s ws H locs) (q0 : Nat) {fs : List Value} (he : ws[q0]? = some (a, .inr (0, fs))) {v : Value} (hn : narrow (tyX0 4) v = v) (hfit : fits (tyX0 4) v = true) (hl : 4 < fs.length) (hw : ws.set q0 (a, .inr (0, fs.set 4 v)) = ws') (hdg : decode cc pc = .ok (.putfield 63, 3)) (kk : ∀ (H1 : Heap) (locs1 : List Loc), Wd Γ w0 s ws' H1 locs1 → W p l e R s m args below meth c H1 locs1 cells slots Q (F0 m (pc + 3) ls rest)) : W p l e R s m args below meth c H locs cells slots Q (F0 m pc ls (v :: .ref a :: rest)) := x_put X Y iX0 tyX0 tyX0_ok nmX0 rfl 4 (by decide) rfl kw327 rfl q0 he hn hfit hl hw hdg kk
def rmB_begin : Room := { frames := 0, cells := 0, slots := 0, locals := 0 }
def B_begin_27 (y0 : Int32) (blo : Int32) (bwh : Int32) (bow : Int32) (bom : Int32) (csw : Int32) : Option (Int32 × Int32 × Int32 × Int32) := some (blo, bwh, y0, (0 : Int32))
set_option maxHeartbeats 4000000 in
set_option maxRecDepth 100000 in
theorem bB_begin_27 {Ab : Nat → Nat} {Ac : Nat → Nat} {blo : Int32} {bwh : Int32} {bow : Int32} {bom : Int32} {csw : Int32} {cca : Int32} {csi : Int32} {cab : Int32} {cun : Int32} {csg : Int32} {cfa : Nat → Int32} {che : Nat → Int32} {cst : Nat → Int32} {blo_z : Int32} {bwh_z : Int32} {bow_z : Int32} {bom_z : Int32} {y0 : Int32} (X : Cx Γ p s m args meth c RX0 cX0_begin 3 none w0) (hf : B_begin_27 y0 blo bwh bow bom csw = some (blo_z, bwh_z, bow_z, bom_z)) (Y : Wd Γ w0 s ((WB Γ Ab blo bwh bow bom) ++ (WC Γ Ac csw cca csi cab cun csg cfa che cst)) H locs) (hl : lv_has ls 3 [(0, .ref (Ab 0))]) : W p l e rmB_begin s m args below meth c H locs 0 0 (EV Γ below args s w0 ((WB Γ Ab blo_z bwh_z bow_z bom_z) ++ (WC Γ Ac csw cca csi cab cun csg cfa che cst))) (F0 m 27 ls [.int y0, .ref (Ab 0)]) := by
  have hx := X.1
  have hb := X.2.1
  refine pfX0_60 X Y 0 rfl rfl rfl (Nat.le_of_ble_eq_true rfl) (ws' := ((WB Γ Ab blo bwh y0 bom) ++ (WC Γ Ac csw cca csi cab cun csg cfa che cst))) rfl dX0_begin_27 (fun H locs Y => ?_)
  refine lv_aload_n hx hb dX0_begin_30 rfl (lv_at hl 0 rfl) ?_
  refine lv_iconst (v := (0 : Int32)) hx hb dX0_begin_31 (by decide) ?_
  refine pfX0_63 X Y 0 rfl rfl rfl (Nat.le_of_ble_eq_true rfl) (ws' := ((WB Γ Ab blo bwh y0 (0 : Int32)) ++ (WC Γ Ac csw cca csi cab cun csg cfa che cst))) rfl dX0_begin_32 (fun H locs Y => ?_)
  obtain ⟨e90, e91, e92, e93⟩ := sj4 hf
  subst e90
  subst e91
  subst e92
  subst e93
  exact x_vret X Y dX0_begin_35
def B_begin (x2 : Int32) (blo : Int32) (bwh : Int32) (bow : Int32) (bom : Int32) (csw : Int32) : Option (Int32 × Int32 × Int32 × Int32) := if x2 = (4 : Int32) then (B_begin_27 csw (0 : Int32) csw bow bom csw) else (B_begin_27 (0 : Int32) (0 : Int32) csw bow bom csw)
set_option maxHeartbeats 4000000 in
set_option maxRecDepth 100000 in
theorem bB_begin_e {Ab : Nat → Nat} {Ac : Nat → Nat} {blo : Int32} {bwh : Int32} {bow : Int32} {bom : Int32} {csw : Int32} {cca : Int32} {csi : Int32} {cab : Int32} {cun : Int32} {csg : Int32} {cfa : Nat → Int32} {che : Nat → Int32} {cst : Nat → Int32} {blo_z : Int32} {bwh_z : Int32} {bow_z : Int32} {bom_z : Int32} {x2 : Int32} (X : Cx Γ p s m args meth c RX0 cX0_begin 3 none w0) (hf : B_begin x2 blo bwh bow bom csw = some (blo_z, bwh_z, bow_z, bom_z)) (Y : Wd Γ w0 s ((WB Γ Ab blo bwh bow bom) ++ (WC Γ Ac csw cca csi cab cun csg cfa che cst)) H locs) (hl : lv_has ls 3 [(0, .ref (Ab 0)), (1, .ref (Ac 0)), (2, .int x2)]) : W p l e rmB_begin s m args below meth c H locs 0 0 (EV Γ below args s w0 ((WB Γ Ab blo_z bwh_z bow_z bom_z) ++ (WC Γ Ac csw cca csi cab cun csg cfa che cst))) (F0 m 0 ls []) := by
  have hx := X.1
  have hb := X.2.1
  refine lv_aload_n hx hb dX0_begin_0 rfl (lv_at hl 0 rfl) ?_
  refine lv_iconst (v := (0 : Int32)) hx hb dX0_begin_1 (by decide) ?_
  refine pfX0_51 X Y 0 rfl rfl rfl (Nat.le_of_ble_eq_true rfl) (ws' := ((WB Γ Ab (0 : Int32) bwh bow bom) ++ (WC Γ Ac csw cca csi cab cun csg cfa che cst))) rfl dX0_begin_2 (fun H locs Y => ?_)
  refine lv_aload_n hx hb dX0_begin_5 rfl (lv_at hl 0 rfl) ?_
  refine lv_aload_n hx hb dX0_begin_6 rfl (lv_at hl 1 rfl) ?_
  refine gfX0_54 X Y (v := .int csw) 8 rfl rfl dX0_begin_7 ?_
  refine pfX0_57 X Y 0 rfl rfl rfl (Nat.le_of_ble_eq_true rfl) (ws' := ((WB Γ Ab (0 : Int32) csw bow bom) ++ (WC Γ Ac csw cca csi cab cun csg cfa che cst))) rfl dX0_begin_10 (fun H locs Y => ?_)
  refine lv_aload_n hx hb dX0_begin_13 rfl (lv_at hl 0 rfl) ?_
  refine lv_iload_n hx hb dX0_begin_14 rfl (lv_at hl 2 rfl) ?_
  refine lv_iconst (v := (4 : Int32)) hx hb dX0_begin_15 (by decide) ?_
  refine lv_icmp_ne (tgt := 26) hx hb dX0_begin_16 (by decide) (fun c_1 => ?_) (fun c_1 => ?_)
  · have hf := ite_f hf c_1
    refine lv_iconst (v := (0 : Int32)) hx hb dX0_begin_26 (by decide) ?_
    exact bB_begin_27 X hf Y (lv_sub hl [0] rfl)
  · have hf := ite_t hf c_1
    refine lv_aload_n hx hb dX0_begin_19 rfl (lv_at hl 1 rfl) ?_
    refine gfX0_54 X Y (v := .int csw) 8 rfl rfl dX0_begin_20 ?_
    refine lv_goto (tgt := 27) hx hb dX0_begin_23 (by decide) ?_
    exact bB_begin_27 X hf Y (lv_sub hl [0] rfl)
theorem cB_begin {l : Launch} {Γ : Gm} {Ab : Nat → Nat} {Ac : Nat → Nat} {blo : Int32} {bwh : Int32} {bow : Int32} {bom : Int32} {csw : Int32} {cca : Int32} {csi : Int32} {cab : Int32} {cun : Int32} {csg : Int32} {cfa : Nat → Int32} {che : Nat → Int32} {cst : Nat → Int32} {blo_z : Int32} {bwh_z : Int32} {bow_z : Int32} {bom_z : Int32} {x2 : Int32} (h : B_begin x2 blo bwh bow bom csw = some (blo_z, bwh_z, bow_z, bom_z)) : CV l Γ yX0_begin (Cond.code yX0_begin cX0_begin 3 none :: GW) rmB_begin [.ref (Ab 0), .ref (Ac 0), .int x2] ((WB Γ Ab blo bwh bow bom) ++ (WC Γ Ac csw cca csi cab cun csg cfa che cst)) ((WB Γ Ab blo_z bwh_z bow_z bom_z) ++ (WC Γ Ac csw cca csi cab cun csg cfa che cst)) := ofBody (Qc := QcV Γ _ _) (by decide) (Nat.le_of_ble_eq_true rfl) (fun p e s m below meth c ls _ X Y hl => bB_begin_e X h Y hl)
theorem gfX0_74 (X : Cx Γ p s m args meth c RX0 cc nL ret w0) (Y : Wd Γ w0 s ws H locs) {v : Value} (q0 : Nat) {fs : List Value} (he : ws[q0]? = some (a, .inr (1, fs))) (hv : fs[3]? = some v) (hdg : decode cc pc = .ok (.getfield 74, 3)) (kk : W p l e R s m args below meth c H locs cells slots Q (F0 m (pc + 3) ls (v :: rest))) : W p l e R s m args below meth c H locs cells slots Q (F0 m pc ls (.ref a :: rest)) := x_getN X Y iX1 rfl 3 (by decide) rfl kw328 q0 he hv hdg kk
theorem cwX0_77 (X : Cx Γ p s m args meth c RX0 cc nL ret w0) (hR : rmX_isIn.frames + 1 ≤ R.frames ∧ 8 + (2 + 11) + rmX_isIn.locals ≤ R.locals) : va_CN R s args RX0 77 yX11_isIn "ThrownOver" cX11_isIn 2 (some .boolean) (Cond.code yX11_isIn cX11_isIn 2 (some .boolean) :: GW) rmX_isIn 0 0 2 ∧ (Cond.static yX11_isIn).before args s = true ∧ True := cw_SN X kw329 kw242 kw220 kw243 dmX11_isInS rfl rfl hR
theorem dmX0_kindOfV : yX0_kindOf.cls = RX0 ∧ yX0_kindOf.cls ≠ "java/lang/invoke/MethodHandle" ∧ yX0_kindOf.cls ≠ "java/lang/invoke/VarHandle" ∧ (parseMethodDescriptor yX0_kindOf.desc).map (fun d => d.parameters.length) = some 2 := by decide +kernel
theorem cwX0_66 (X : Cx Γ p s m args meth c RX0 cc nL ret w0) (hR : rmB_kindOf.frames + 1 ≤ R.frames ∧ 8 + (4 + 11) + rmB_kindOf.locals ≤ R.locals) : CallW R s args RX0 RX0 66 yX0_kindOf cX0_kindOf 4 (some (.object "ThrownOver$PlainKind")) (Cond.code yX0_kindOf cX0_kindOf 4 (some (.object "ThrownOver$PlainKind")) :: GW) rmB_kindOf 0 0 2 := cw_V X kw330 kw331 kw332 kw333 kw334 dmX0_kindOfV rfl rfl hR
theorem gfX0_57 (X : Cx Γ p s m args meth c RX0 cc nL ret w0) (Y : Wd Γ w0 s ws H locs) {v : Value} (q0 : Nat) {fs : List Value} (he : ws[q0]? = some (a, .inr (0, fs))) (hv : fs[2]? = some v) (hdg : decode cc pc = .ok (.getfield 57, 3)) (kk : W p l e R s m args below meth c H locs cells slots Q (F0 m (pc + 3) ls (v :: rest))) : W p l e R s m args below meth c H locs cells slots Q (F0 m pc ls (.ref a :: rest)) := x_get X Y iX0 rfl 2 (by decide) rfl kw325 q0 he hv hdg kk
theorem gfX0_51 (X : Cx Γ p s m args meth c RX0 cc nL ret w0) (Y : Wd Γ w0 s ws H locs) {v : Value} (q0 : Nat) {fs : List Value} (he : ws[q0]? = some (a, .inr (0, fs))) (hv : fs[1]? = some v) (hdg : decode cc pc = .ok (.getfield 51, 3)) (kk : W p l e R s m args below meth c H locs cells slots Q (F0 m (pc + 3) ls (v :: rest))) : W p l e R s m args below meth c H locs cells slots Q (F0 m pc ls (.ref a :: rest)) := x_get X Y iX0 rfl 1 (by decide) rfl kw323 q0 he hv hdg kk
theorem gfX0_60 (X : Cx Γ p s m args meth c RX0 cc nL ret w0) (Y : Wd Γ w0 s ws H locs) {v : Value} (q0 : Nat) {fs : List Value} (he : ws[q0]? = some (a, .inr (0, fs))) (hv : fs[3]? = some v) (hdg : decode cc pc = .ok (.getfield 60, 3)) (kk : W p l e R s m args below meth c H locs cells slots Q (F0 m (pc + 3) ls (v :: rest))) : W p l e R s m args below meth c H locs cells slots Q (F0 m pc ls (.ref a :: rest)) := x_get X Y iX0 rfl 3 (by decide) rfl kw326 q0 he hv hdg kk
theorem gfX0_63 (X : Cx Γ p s m args meth c RX0 cc nL ret w0) (Y : Wd Γ w0 s ws H locs) {v : Value} (q0 : Nat) {fs : List Value} (he : ws[q0]? = some (a, .inr (0, fs))) (hv : fs[4]? = some v) (hdg : decode cc pc = .ok (.getfield 63, 3)) (kk : W p l e R s m args below meth c H locs cells slots Q (F0 m (pc + 3) ls (v :: rest))) : W p l e R s m args below meth c H locs cells slots Q (F0 m pc ls (.ref a :: rest)) := x_get X Y iX0 rfl 4 (by decide) rfl kw327 q0 he hv hdg kk
def rmB_enter : Room := { frames := 3, cells := 0, slots := 0, locals := 67 }
def B_enter_39 (x2 : Int32) (x3 : Int32) (x6 : Int32) (y0 : Int32) (blo : Int32) (bwh : Int32) (bow : Int32) (bom : Int32) (csi : Int32) (cab : Int32) (cfa : Nat → Int32) : Option (Int32 × Int32 × Int32 × Int32) := bnd (bwh + x6) (fun (bwh_1 : Int32) => bnd (blo + y0) (fun (blo_2 : Int32) => bd1 (C_fact x3 (1 : Int32) csi cfa) (fun (r_3 : Int32) => if r_3 = x2 then (bnd (bow + x6) (fun (bow_5 : Int32) => bnd (bom + y0) (fun (bom_6 : Int32) => some (blo_2, bwh_1, bow_5, bom_6)))) else (some (blo_2, bwh_1, bow, bom)))))
set_option maxHeartbeats 4000000 in
set_option maxRecDepth 100000 in
theorem bB_enter_39 {Ab : Nat → Nat} {Ac : Nat → Nat} {blo : Int32} {bwh : Int32} {bow : Int32} {bom : Int32} {csw : Int32} {cca : Int32} {csi : Int32} {cab : Int32} {cun : Int32} {csg : Int32} {cfa : Nat → Int32} {che : Nat → Int32} {cst : Nat → Int32} {blo_z : Int32} {bwh_z : Int32} {bow_z : Int32} {bom_z : Int32} {x2 : Int32} {x3 : Int32} {x6 : Int32} {y0 : Int32} (X : Cx Γ p s m args meth c RX0 cX0_enter 8 none w0) (hf : B_enter_39 x2 x3 x6 y0 blo bwh bow bom csi cab cfa = some (blo_z, bwh_z, bow_z, bom_z)) (Y : Wd Γ w0 s ((WB Γ Ab blo bwh bow bom) ++ (WC Γ Ac csw cca csi cab cun csg cfa che cst)) H locs) (hl : lv_has ls 8 [(0, .ref (Ab 0)), (1, .ref (Ac 0)), (2, .int x2), (3, .int x3), (6, .int x6)]) : W p l e rmB_enter s m args below meth c H locs 0 0 (EV Γ below args s w0 ((WB Γ Ab blo_z bwh_z bow_z bom_z) ++ (WC Γ Ac csw cca csi cab cun csg cfa che cst))) (F0 m 39 ls [.int y0]) := by
  have hx := X.1
  have hb := X.2.1
  refine lv_istore (lv' := [(7, .int y0), (0, .ref (Ab 0)), (1, .ref (Ac 0)), (2, .int x2), (3, .int x3), (6, .int x6)]) hx hb dX0_enter_39 hl (by decide) rfl (fun ls hl => ?_)
  refine lv_aload_n hx hb dX0_enter_41 rfl (lv_at hl 1 rfl) ?_
  refine lv_dup hx hb dX0_enter_42 rfl ?_
  refine gfX0_57 X Y (v := .int bwh) 0 rfl rfl dX0_enter_43 ?_
  refine lv_iload hx hb dX0_enter_46 (lv_at hl 5 rfl) ?_
  refine lv_iadd hx hb dX0_enter_48 ?_
  refine lv_topi (fun bwh_1 e_bwh_1 => ?_)
  have hf := bnd_eq hf e_bwh_1
  refine pfX0_57 X Y 0 rfl rfl rfl (Nat.le_of_ble_eq_true rfl) (ws' := ((WB Γ Ab blo bwh_1 bow bom) ++ (WC Γ Ac csw cca csi cab cun csg cfa che cst))) rfl dX0_enter_49 (fun H locs Y => ?_)
  refine lv_aload_n hx hb dX0_enter_52 rfl (lv_at hl 1 rfl) ?_
  refine lv_dup hx hb dX0_enter_53 rfl ?_
  refine gfX0_51 X Y (v := .int blo) 0 rfl rfl dX0_enter_54 ?_
  refine lv_iload hx hb dX0_enter_57 (lv_at hl 0 rfl) ?_
  refine lv_iadd hx hb dX0_enter_59 ?_
  refine lv_topi (fun blo_2 e_blo_2 => ?_)
  have hf := bnd_eq hf e_blo_2
  refine pfX0_51 X Y 0 rfl rfl rfl (Nat.le_of_ble_eq_true rfl) (ws' := ((WB Γ Ab blo_2 bwh_1 bow bom) ++ (WC Γ Ac csw cca csi cab cun csg cfa che cst))) rfl dX0_enter_60 (fun H locs Y => ?_)
  refine lv_aload_n hx hb dX0_enter_63 rfl (lv_at hl 2 rfl) ?_
  refine lv_iload_n hx hb dX0_enter_64 rfl (lv_at hl 4 rfl) ?_
  refine lv_iconst (v := (1 : Int32)) hx hb dX0_enter_65 (by decide) ?_
  obtain ⟨r_3, ho_7, hf⟩ := bd1_some hf
  refine t_i Y (bkE Y [8, 9, 10, 11] rfl) (r_V (As := [.int x3, .int (1 : Int32)]) (rest := []) X (c_pre X Y [8, 9, 10, 11] rfl rfl) (cC_fact ho_7) (cwX0_43 X (by decide)) (va_recv X.K Y.1 (q := (RX1, TX1, 9)) (q0 := 8) (ci := 1) rfl rfl) rfl hl.1 (Nat.le_of_ble_eq_true rfl) rfl dX0_enter_66 ⟨Nat.zero_le _, Nat.zero_le _⟩) (fun H locs Y => ?_)
  refine lv_iload_n hx hb dX0_enter_69 rfl (lv_at hl 3 rfl) ?_
  refine lv_icmp_ne (tgt := 95) hx hb dX0_enter_70 (by decide) (fun c_4 => ?_) (fun c_4 => ?_)
  · have hf := ite_f hf c_4
    obtain ⟨e90, e91, e92, e93⟩ := sj4 hf
    subst e90
    subst e91
    subst e92
    subst e93
    exact x_vret X Y dX0_enter_95
  · have hf := ite_t hf c_4
    refine lv_aload_n hx hb dX0_enter_73 rfl (lv_at hl 1 rfl) ?_
    refine lv_dup hx hb dX0_enter_74 rfl ?_
    refine gfX0_60 X Y (v := .int bow) 0 rfl rfl dX0_enter_75 ?_
    refine lv_iload hx hb dX0_enter_78 (lv_at hl 5 rfl) ?_
    refine lv_iadd hx hb dX0_enter_80 ?_
    refine lv_topi (fun bow_5 e_bow_5 => ?_)
    have hf := bnd_eq hf e_bow_5
    refine pfX0_60 X Y 0 rfl rfl rfl (Nat.le_of_ble_eq_true rfl) (ws' := ((WB Γ Ab blo_2 bwh_1 bow_5 bom) ++ (WC Γ Ac csw cca csi cab cun csg cfa che cst))) rfl dX0_enter_81 (fun H locs Y => ?_)
    refine lv_aload_n hx hb dX0_enter_84 rfl (lv_at hl 1 rfl) ?_
    refine lv_dup hx hb dX0_enter_85 rfl ?_
    refine gfX0_63 X Y (v := .int bom) 0 rfl rfl dX0_enter_86 ?_
    refine lv_iload hx hb dX0_enter_89 (lv_at hl 0 rfl) ?_
    refine lv_iadd hx hb dX0_enter_91 ?_
    refine lv_topi (fun bom_6 e_bom_6 => ?_)
    have hf := bnd_eq hf e_bom_6
    refine pfX0_63 X Y 0 rfl rfl rfl (Nat.le_of_ble_eq_true rfl) (ws' := ((WB Γ Ab blo_2 bwh_1 bow_5 bom_6) ++ (WC Γ Ac csw cca csi cab cun csg cfa che cst))) rfl dX0_enter_92 (fun H locs Y => ?_)
    obtain ⟨e90, e91, e92, e93⟩ := sj4 hf
    subst e90
    subst e91
    subst e92
    subst e93
    exact x_vret X Y dX0_enter_95
def B_enter (x2 : Int32) (x3 : Int32) (x4 : Int32) (blo : Int32) (bwh : Int32) (bow : Int32) (bom : Int32) (csi : Int32) (cab : Int32) (cfa : Nat → Int32) : Option (Int32 × Int32 × Int32 × Int32) := bd1 (B_kindOf x3 csi cfa) (fun (r_1 : Nat) => bd1 (K_bears r_1 x4) (fun (r_2 : Int32) => bd1 (X_isIn cab x3) (fun (r_4 : Int32) => if r_4 = 0 then (bd1 (K_madeGood r_1 x4) (fun (r_6 : Int32) => B_enter_39 x2 x3 r_2 r_6 blo bwh bow bom csi cab cfa)) else (B_enter_39 x2 x3 r_2 (0 : Int32) blo bwh bow bom csi cab cfa))))
set_option maxHeartbeats 4000000 in
set_option maxRecDepth 100000 in
theorem bB_enter_e {Ab : Nat → Nat} {Ac : Nat → Nat} {blo : Int32} {bwh : Int32} {bow : Int32} {bom : Int32} {csw : Int32} {cca : Int32} {csi : Int32} {cab : Int32} {cun : Int32} {csg : Int32} {cfa : Nat → Int32} {che : Nat → Int32} {cst : Nat → Int32} {blo_z : Int32} {bwh_z : Int32} {bow_z : Int32} {bom_z : Int32} {x2 : Int32} {x3 : Int32} {x4 : Int32} (X : Cx Γ p s m args meth c RX0 cX0_enter 8 none w0) (hf : B_enter x2 x3 x4 blo bwh bow bom csi cab cfa = some (blo_z, bwh_z, bow_z, bom_z)) (Y : Wd Γ w0 s ((WB Γ Ab blo bwh bow bom) ++ (WC Γ Ac csw cca csi cab cun csg cfa che cst)) H locs) (hl : lv_has ls 8 [(0, .ref (Ab 0)), (1, .ref (Ac 0)), (2, .int x2), (3, .int x3), (4, .int x4)]) : W p l e rmB_enter s m args below meth c H locs 0 0 (EV Γ below args s w0 ((WB Γ Ab blo_z bwh_z bow_z bom_z) ++ (WC Γ Ac csw cca csi cab cun csg cfa che cst))) (F0 m 0 ls []) := by
  have hx := X.1
  have hb := X.2.1
  refine lv_aload_n hx hb dX0_enter_0 rfl (lv_at hl 0 rfl) ?_
  refine lv_aload_n hx hb dX0_enter_1 rfl (lv_at hl 1 rfl) ?_
  refine lv_iload_n hx hb dX0_enter_2 rfl (lv_at hl 3 rfl) ?_
  obtain ⟨r_1, ho_9, hf⟩ := bd1_some hf
  refine t_r Y (bkS Y) (r_V (As := [.ref (Ac 0), .int x3]) (rest := []) X (c_preS X Y) (cB_kindOf ho_9) (cwX0_66 X (by decide)) (va_recv X.K Y.1 (q := (RX0, TX0, 5)) (q0 := 0) (ci := 0) rfl rfl) rfl hl.1 (Nat.le_of_ble_eq_true rfl) rfl dX0_enter_3 ⟨Nat.zero_le _, Nat.zero_le _⟩) (fun H locs Y => ?_)
  refine lv_astore (lv' := [(5, .ref (Ab (2 + r_1))), (0, .ref (Ab 0)), (1, .ref (Ac 0)), (2, .int x2), (3, .int x3), (4, .int x4)]) hx hb dX0_enter_6 hl (by decide) rfl (fun ls hl => ?_)
  refine lv_aload hx hb dX0_enter_8 (lv_at hl 0 rfl) ?_
  refine lv_iload hx hb dX0_enter_10 (lv_at hl 5 rfl) ?_
  obtain ⟨r_2, ho_3, hf⟩ := bd1_some hf
  refine kd_bears (Ab := Ab) X Y rfl rfl rfl rfl rfl rfl ho_3 hl.1 (Nat.le_of_ble_eq_true rfl) dX0_enter_12 (by decide) (Nat.zero_le _) (Nat.zero_le _) (fun H locs Y => ?_)
  refine lv_istore (lv' := [(6, .int r_2), (5, .ref (Ab (2 + r_1))), (0, .ref (Ab 0)), (1, .ref (Ac 0)), (2, .int x2), (3, .int x3), (4, .int x4)]) hx hb dX0_enter_15 hl (by decide) rfl (fun ls hl => ?_)
  refine lv_aload_n hx hb dX0_enter_17 rfl (lv_at hl 3 rfl) ?_
  refine gfX0_74 X Y (v := .int cab) 8 rfl rfl dX0_enter_18 ?_
  refine lv_iload_n hx hb dX0_enter_21 rfl (lv_at hl 5 rfl) ?_
  obtain ⟨r_4, ho_8, hf⟩ := bd1_some hf
  refine t_i Y (bk0 Y) (r_SN (As := [.int cab, .int x3]) (rest := []) X (c_pre0 X Y) (cX_isIn ho_8) (cwX0_77 X (by decide)) rfl hl.1 (Nat.le_of_ble_eq_true rfl) rfl dX0_enter_22 ⟨Nat.zero_le _, Nat.zero_le _⟩) (fun H locs Y => ?_)
  refine lv_if_eq (tgt := 32) hx hb dX0_enter_25 (by decide) (fun c_5 => ?_) (fun c_5 => ?_)
  · have hf := ite_t hf c_5
    refine lv_aload hx hb dX0_enter_32 (lv_at hl 1 rfl) ?_
    refine lv_iload hx hb dX0_enter_34 (lv_at hl 6 rfl) ?_
    obtain ⟨r_6, ho_7, hf⟩ := bd1_some hf
    refine kd_madeGood (Ab := Ab) X Y rfl rfl rfl rfl rfl rfl ho_7 hl.1 (Nat.le_of_ble_eq_true rfl) dX0_enter_36 (by decide) (Nat.zero_le _) (Nat.zero_le _) (fun H locs Y => ?_)
    exact bB_enter_39 X hf Y (lv_sub hl [2, 3, 4, 5, 0] rfl)
  · have hf := ite_f hf c_5
    refine lv_iconst (v := (0 : Int32)) hx hb dX0_enter_28 (by decide) ?_
    refine lv_goto (tgt := 39) hx hb dX0_enter_29 (by decide) ?_
    exact bB_enter_39 X hf Y (lv_sub hl [2, 3, 4, 5, 0] rfl)
theorem cB_enter {l : Launch} {Γ : Gm} {Ab : Nat → Nat} {Ac : Nat → Nat} {blo : Int32} {bwh : Int32} {bow : Int32} {bom : Int32} {csw : Int32} {cca : Int32} {csi : Int32} {cab : Int32} {cun : Int32} {csg : Int32} {cfa : Nat → Int32} {che : Nat → Int32} {cst : Nat → Int32} {blo_z : Int32} {bwh_z : Int32} {bow_z : Int32} {bom_z : Int32} {x2 : Int32} {x3 : Int32} {x4 : Int32} (h : B_enter x2 x3 x4 blo bwh bow bom csi cab cfa = some (blo_z, bwh_z, bow_z, bom_z)) : CV l Γ yX0_enter (Cond.code yX0_enter cX0_enter 8 none :: GW) rmB_enter [.ref (Ab 0), .ref (Ac 0), .int x2, .int x3, .int x4] ((WB Γ Ab blo bwh bow bom) ++ (WC Γ Ac csw cca csi cab cun csg cfa che cst)) ((WB Γ Ab blo_z bwh_z bow_z bom_z) ++ (WC Γ Ac csw cca csi cab cun csg cfa che cst)) := ofBody (Qc := QcV Γ _ _) (by decide) (Nat.le_of_ble_eq_true rfl) (fun p e s m below meth c ls _ X Y hl => bB_enter_e X h Y hl)
theorem dmX0_beginV : yX0_begin.cls = RX0 ∧ yX0_begin.cls ≠ "java/lang/invoke/MethodHandle" ∧ yX0_begin.cls ≠ "java/lang/invoke/VarHandle" ∧ (parseMethodDescriptor yX0_begin.desc).map (fun d => d.parameters.length) = some 2 := by decide +kernel
theorem cwX0_33 (X : Cx Γ p s m args meth c RX0 cc nL ret w0) (hR : rmB_begin.frames + 1 ≤ R.frames ∧ 8 + (3 + 11) + rmB_begin.locals ≤ R.locals) : CallW R s args RX0 RX0 33 yX0_begin cX0_begin 3 none (Cond.code yX0_begin cX0_begin 3 none :: GW) rmB_begin 0 0 2 := cw_V X kw335 kw336 kw337 kw333 kw338 dmX0_beginV rfl rfl hR
theorem gfX0_37 (X : Cx Γ p s m args meth c RX0 cc nL ret w0) (Y : Wd Γ w0 s ws H locs) {v : Value} (q0 : Nat) {fs : List Value} (he : ws[q0]? = some (a, .inr (1, fs))) (hv : fs[2]? = some v) (hdg : decode cc pc = .ok (.getfield 37, 3)) (kk : W p l e R s m args below meth c H locs cells slots Q (F0 m (pc + 3) ls (v :: rest))) : W p l e R s m args below meth c H locs cells slots Q (F0 m pc ls (.ref a :: rest)) := x_getN X Y iX1 rfl 2 (by decide) rfl kw339 q0 he hv hdg kk
theorem dmX0_enterV : yX0_enter.cls = RX0 ∧ yX0_enter.cls ≠ "java/lang/invoke/MethodHandle" ∧ yX0_enter.cls ≠ "java/lang/invoke/VarHandle" ∧ (parseMethodDescriptor yX0_enter.desc).map (fun d => d.parameters.length) = some 4 := by decide +kernel
theorem cwX0_47 (X : Cx Γ p s m args meth c RX0 cc nL ret w0) (hR : rmB_enter.frames + 1 ≤ R.frames ∧ 8 + (8 + 11) + rmB_enter.locals ≤ R.locals) : CallW R s args RX0 RX0 47 yX0_enter cX0_enter 8 none (Cond.code yX0_enter cX0_enter 8 none :: GW) rmB_enter 0 0 4 := cw_V X kw340 kw341 kw342 kw333 kw343 dmX0_enterV rfl rfl hR
def rmB_reckon : Room := { frames := 4, cells := 0, slots := 0, locals := 94 }
def B_reckon_8 (rc8 : Int32 → Int32 → Int32 → Int32 → Int32 → Int32 → Int32 → Int32 → Int32 → (Nat → Int32) → Option (Int32 × Int32 × Int32 × Int32)) (x2 : Int32) (x3 : Int32) (blo : Int32) (bwh : Int32) (bow : Int32) (bom : Int32) (csw : Int32) (csi : Int32) (cab : Int32) (cfa : Nat → Int32) : Option (Int32 × Int32 × Int32 × Int32) := if csi ≤ x3 then (some (blo, bwh, bow, bom)) else (bd1 (C_fact x3 (5 : Int32) csi cfa) (fun (r_2 : Int32) => bd4 (B_enter x2 x3 r_2 blo bwh bow bom csi cab cfa) (fun (blo_3 : Int32) (bwh_4 : Int32) (bow_5 : Int32) (bom_6 : Int32) => bnd (x3 + (1 : Int32)) (fun (x3_7 : Int32) => rc8 x2 x3_7 blo_3 bwh_4 bow_5 bom_6 csw csi cab cfa))))
set_option maxHeartbeats 4000000 in
set_option maxRecDepth 100000 in
theorem bB_reckon_8 {Ab : Nat → Nat} {Ac : Nat → Nat} {blo : Int32} {bwh : Int32} {bow : Int32} {bom : Int32} {csw : Int32} {cca : Int32} {csi : Int32} {cab : Int32} {cun : Int32} {csg : Int32} {cfa : Nat → Int32} {che : Nat → Int32} {cst : Nat → Int32} {blo_z : Int32} {bwh_z : Int32} {bow_z : Int32} {bom_z : Int32} {x2 : Int32} {x3 : Int32} {rc8 : Int32 → Int32 → Int32 → Int32 → Int32 → Int32 → Int32 → Int32 → Int32 → (Nat → Int32) → Option (Int32 × Int32 × Int32 × Int32)} (X : Cx Γ p s m args meth c RX0 cX0_reckon 4 none w0) (h8 : ∀ (x2 : Int32) (x3 : Int32) (blo : Int32) (bwh : Int32) (bow : Int32) (bom : Int32) (csw : Int32) (csi : Int32) (cab : Int32) (cfa : Nat → Int32), rc8 x2 x3 blo bwh bow bom csw csi cab cfa = some (blo_z, bwh_z, bow_z, bom_z) → ∀ (H : Heap) (locs : List Loc) (ls : Array Slot), Wd Γ w0 s ((WB Γ Ab blo bwh bow bom) ++ (WC Γ Ac csw cca csi cab cun csg cfa che cst)) H locs → lv_has ls 4 [(0, .ref (Ab 0)), (1, .ref (Ac 0)), (2, .int x2), (3, .int x3)] → W p l e rmB_reckon s m args below meth c H locs 0 0 (EV Γ below args s w0 ((WB Γ Ab blo_z bwh_z bow_z bom_z) ++ (WC Γ Ac csw cca csi cab cun csg cfa che cst))) (F0 m 8 ls [])) (hf : B_reckon_8 rc8 x2 x3 blo bwh bow bom csw csi cab cfa = some (blo_z, bwh_z, bow_z, bom_z)) (Y : Wd Γ w0 s ((WB Γ Ab blo bwh bow bom) ++ (WC Γ Ac csw cca csi cab cun csg cfa che cst)) H locs) (hl : lv_has ls 4 [(0, .ref (Ab 0)), (1, .ref (Ac 0)), (2, .int x2), (3, .int x3)]) : W p l e rmB_reckon s m args below meth c H locs 0 0 (EV Γ below args s w0 ((WB Γ Ab blo_z bwh_z bow_z bom_z) ++ (WC Γ Ac csw cca csi cab cun csg cfa che cst))) (F0 m 8 ls []) := by
  have hx := X.1
  have hb := X.2.1
  refine lv_iload_n hx hb dX0_reckon_8 rfl (lv_at hl 3 rfl) ?_
  refine lv_aload_n hx hb dX0_reckon_9 rfl (lv_at hl 1 rfl) ?_
  refine gfX0_37 X Y (v := .int csi) 8 rfl rfl dX0_reckon_10 ?_
  refine lv_icmp_ge (tgt := 35) hx hb dX0_reckon_13 (by decide) (fun c_1 => ?_) (fun c_1 => ?_)
  · have hf := ite_t hf c_1
    obtain ⟨e90, e91, e92, e93⟩ := sj4 hf
    subst e90
    subst e91
    subst e92
    subst e93
    exact x_vret X Y dX0_reckon_35
  · have hf := ite_f hf c_1
    refine lv_aload_n hx hb dX0_reckon_16 rfl (lv_at hl 0 rfl) ?_
    refine lv_aload_n hx hb dX0_reckon_17 rfl (lv_at hl 1 rfl) ?_
    refine lv_iload_n hx hb dX0_reckon_18 rfl (lv_at hl 2 rfl) ?_
    refine lv_iload_n hx hb dX0_reckon_19 rfl (lv_at hl 3 rfl) ?_
    refine lv_aload_n hx hb dX0_reckon_20 rfl (lv_at hl 1 rfl) ?_
    refine lv_iload_n hx hb dX0_reckon_21 rfl (lv_at hl 3 rfl) ?_
    refine lv_iconst (v := (5 : Int32)) hx hb dX0_reckon_22 (by decide) ?_
    obtain ⟨r_2, ho_9, hf⟩ := bd1_some hf
    refine t_i Y (bkE Y [8, 9, 10, 11] rfl) (r_V (As := [.int x3, .int (5 : Int32)]) (rest := [.int x3, .int x2, .ref (Ac 0), .ref (Ab 0)]) X (c_pre X Y [8, 9, 10, 11] rfl rfl) (cC_fact ho_9) (cwX0_43 X (by decide)) (va_recv X.K Y.1 (q := (RX1, TX1, 9)) (q0 := 8) (ci := 1) rfl rfl) rfl hl.1 (Nat.le_of_ble_eq_true rfl) rfl dX0_reckon_23 ⟨Nat.zero_le _, Nat.zero_le _⟩) (fun H locs Y => ?_)
    obtain ⟨blo_3, bwh_4, bow_5, bom_6, ho_8, hf⟩ := bd4_some hf
    refine t_v Y (bkS Y) (r_V (As := [.ref (Ac 0), .int x2, .int x3, .int r_2]) (rest := []) X (c_preS X Y) (cB_enter ho_8) (cwX0_47 X (by decide)) (va_recv X.K Y.1 (q := (RX0, TX0, 5)) (q0 := 0) (ci := 0) rfl rfl) rfl hl.1 (Nat.le_of_ble_eq_true rfl) rfl dX0_reckon_26 ⟨Nat.zero_le _, Nat.zero_le _⟩) (fun H locs Y => ?_)
    obtain ⟨x3_7, e_x3_7⟩ : ∃ z : Int32, z = (x3 + (1 : Int32)) := ⟨_, rfl⟩
    have hf := bnd_eq hf e_x3_7
    refine lv_iinc (v := x3_7) (lv' := [(3, .int x3_7), (0, .ref (Ab 0)), (1, .ref (Ac 0)), (2, .int x2)]) hx hb dX0_reckon_29 hl (k := 3) rfl (by rw [e_x3_7]; rfl) (by decide) rfl (fun ls hl => ?_)
    refine lv_goto (tgt := 8) hx hb dX0_reckon_32 (by decide) ?_
    exact h8 _ _ _ _ _ _ _ _ _ _ hf _ _ _ Y (lv_sub hl [1, 2, 3, 0] rfl)
def B_reckon_L8 : Nat → Int32 → Int32 → Int32 → Int32 → Int32 → Int32 → Int32 → Int32 → Int32 → (Nat → Int32) → Option (Int32 × Int32 × Int32 × Int32)
  | 0, _, _, _, _, _, _, _, _, _, _ => none
  | n + 1, x2, x3, blo, bwh, bow, bom, csw, csi, cab, cfa => B_reckon_8 (B_reckon_L8 n) x2 x3 blo bwh bow bom csw csi cab cfa
theorem lB_reckon_8 {Ab : Nat → Nat} {Ac : Nat → Nat} {cca : Int32} {cun : Int32} {csg : Int32} {che : Nat → Int32} {cst : Nat → Int32} {blo_z : Int32} {bwh_z : Int32} {bow_z : Int32} {bom_z : Int32} (X : Cx Γ p s m args meth c RX0 cX0_reckon 4 none w0) : ∀ (n : Nat) (x2 : Int32) (x3 : Int32) (blo : Int32) (bwh : Int32) (bow : Int32) (bom : Int32) (csw : Int32) (csi : Int32) (cab : Int32) (cfa : Nat → Int32), B_reckon_L8 n x2 x3 blo bwh bow bom csw csi cab cfa = some (blo_z, bwh_z, bow_z, bom_z) → ∀ (H : Heap) (locs : List Loc) (ls : Array Slot), Wd Γ w0 s ((WB Γ Ab blo bwh bow bom) ++ (WC Γ Ac csw cca csi cab cun csg cfa che cst)) H locs → lv_has ls 4 [(0, .ref (Ab 0)), (1, .ref (Ac 0)), (2, .int x2), (3, .int x3)] → W p l e rmB_reckon s m args below meth c H locs 0 0 (EV Γ below args s w0 ((WB Γ Ab blo_z bwh_z bow_z bom_z) ++ (WC Γ Ac csw cca csi cab cun csg cfa che cst))) (F0 m 8 ls []) := by
  intro n
  induction n with
  | zero => intro x2 x3 blo bwh bow bom csw csi cab cfa hf; cases hf
  | succ n ih => intro x2 x3 blo bwh bow bom csw csi cab cfa hf H locs ls Y hl; exact bB_reckon_8 X ih hf Y hl
def B_reckon (x2 : Int32) (blo : Int32) (bwh : Int32) (bow : Int32) (bom : Int32) (csw : Int32) (csi : Int32) (cab : Int32) (cfa : Nat → Int32) : Option (Int32 × Int32 × Int32 × Int32) := bd4 (B_begin x2 blo bwh bow bom csw) (fun (blo_1 : Int32) (bwh_2 : Int32) (bow_3 : Int32) (bom_4 : Int32) => B_reckon_L8 FU x2 (0 : Int32) blo_1 bwh_2 bow_3 bom_4 csw csi cab cfa)
set_option maxHeartbeats 4000000 in
set_option maxRecDepth 100000 in
theorem bB_reckon_e {Ab : Nat → Nat} {Ac : Nat → Nat} {blo : Int32} {bwh : Int32} {bow : Int32} {bom : Int32} {csw : Int32} {cca : Int32} {csi : Int32} {cab : Int32} {cun : Int32} {csg : Int32} {cfa : Nat → Int32} {che : Nat → Int32} {cst : Nat → Int32} {blo_z : Int32} {bwh_z : Int32} {bow_z : Int32} {bom_z : Int32} {x2 : Int32} (X : Cx Γ p s m args meth c RX0 cX0_reckon 4 none w0) (hf : B_reckon x2 blo bwh bow bom csw csi cab cfa = some (blo_z, bwh_z, bow_z, bom_z)) (Y : Wd Γ w0 s ((WB Γ Ab blo bwh bow bom) ++ (WC Γ Ac csw cca csi cab cun csg cfa che cst)) H locs) (hl : lv_has ls 4 [(0, .ref (Ab 0)), (1, .ref (Ac 0)), (2, .int x2)]) : W p l e rmB_reckon s m args below meth c H locs 0 0 (EV Γ below args s w0 ((WB Γ Ab blo_z bwh_z bow_z bom_z) ++ (WC Γ Ac csw cca csi cab cun csg cfa che cst))) (F0 m 0 ls []) := by
  have hx := X.1
  have hb := X.2.1
  refine lv_aload_n hx hb dX0_reckon_0 rfl (lv_at hl 0 rfl) ?_
  refine lv_aload_n hx hb dX0_reckon_1 rfl (lv_at hl 1 rfl) ?_
  refine lv_iload_n hx hb dX0_reckon_2 rfl (lv_at hl 2 rfl) ?_
  obtain ⟨blo_1, bwh_2, bow_3, bom_4, ho_5, hf⟩ := bd4_some hf
  refine t_v Y (bkS Y) (r_V (As := [.ref (Ac 0), .int x2]) (rest := []) X (c_preS X Y) (cB_begin ho_5) (cwX0_33 X (by decide)) (va_recv X.K Y.1 (q := (RX0, TX0, 5)) (q0 := 0) (ci := 0) rfl rfl) rfl hl.1 (Nat.le_of_ble_eq_true rfl) rfl dX0_reckon_3 ⟨Nat.zero_le _, Nat.zero_le _⟩) (fun H locs Y => ?_)
  refine lv_iconst (v := (0 : Int32)) hx hb dX0_reckon_6 (by decide) ?_
  refine lv_istore_n (lv' := [(3, .int (0 : Int32)), (0, .ref (Ab 0)), (1, .ref (Ac 0)), (2, .int x2)]) hx hb dX0_reckon_7 rfl hl (by decide) rfl (fun ls hl => ?_)
  exact lB_reckon_8 X _ _ _ _ _ _ _ _ _ _ _ hf _ _ _ Y (lv_sub hl [1, 2, 3, 0] rfl)
theorem cB_reckon {l : Launch} {Γ : Gm} {Ab : Nat → Nat} {Ac : Nat → Nat} {blo : Int32} {bwh : Int32} {bow : Int32} {bom : Int32} {csw : Int32} {cca : Int32} {csi : Int32} {cab : Int32} {cun : Int32} {csg : Int32} {cfa : Nat → Int32} {che : Nat → Int32} {cst : Nat → Int32} {blo_z : Int32} {bwh_z : Int32} {bow_z : Int32} {bom_z : Int32} {x2 : Int32} (h : B_reckon x2 blo bwh bow bom csw csi cab cfa = some (blo_z, bwh_z, bow_z, bom_z)) : CV l Γ yX0_reckon (Cond.code yX0_reckon cX0_reckon 4 none :: GW) rmB_reckon [.ref (Ab 0), .ref (Ac 0), .int x2] ((WB Γ Ab blo bwh bow bom) ++ (WC Γ Ac csw cca csi cab cun csg cfa che cst)) ((WB Γ Ab blo_z bwh_z bow_z bom_z) ++ (WC Γ Ac csw cca csi cab cun csg cfa che cst)) := ofBody (Qc := QcV Γ _ _) (by decide) (Nat.le_of_ble_eq_true rfl) (fun p e s m below meth c ls _ X Y hl => bB_reckon_e X h Y hl)
def rmB_reckonMarked : Room := { frames := 4, cells := 0, slots := 0, locals := 94 }
def B_reckonMarked_50 (rc18 : Int32 → Int32 → Int32 → Int32 → Int32 → Int32 → Int32 → Int32 → Int32 → Int32 → Int32 → (Nat → Int32) → Option (Int32 × Int32 × Int32 × Int32)) (x2 : Int32) (x3 : Int32) (x4 : Int32) (x5 : Int32) (y0 : Int32) (y1 : Int32) (y2 : Int32) (blo : Int32) (bwh : Int32) (bow : Int32) (bom : Int32) (csw : Int32) (csi : Int32) (cab : Int32) (cfa : Nat → Int32) : Option (Int32 × Int32 × Int32 × Int32) := bd4 (B_enter y2 y1 y0 blo bwh bow bom csi cab cfa) (fun (blo_1 : Int32) (bwh_2 : Int32) (bow_3 : Int32) (bom_4 : Int32) => bnd (x5 + (1 : Int32)) (fun (x5_5 : Int32) => rc18 x2 x3 x4 x5_5 blo_1 bwh_2 bow_3 bom_4 csw csi cab cfa))
set_option maxHeartbeats 4000000 in
set_option maxRecDepth 100000 in
theorem bB_reckonMarked_50 {Ab : Nat → Nat} {Ac : Nat → Nat} {blo : Int32} {bwh : Int32} {bow : Int32} {bom : Int32} {csw : Int32} {cca : Int32} {csi : Int32} {cab : Int32} {cun : Int32} {csg : Int32} {cfa : Nat → Int32} {che : Nat → Int32} {cst : Nat → Int32} {blo_z : Int32} {bwh_z : Int32} {bow_z : Int32} {bom_z : Int32} {x2 : Int32} {x3 : Int32} {x4 : Int32} {x5 : Int32} {y0 : Int32} {y1 : Int32} {y2 : Int32} {rc18 : Int32 → Int32 → Int32 → Int32 → Int32 → Int32 → Int32 → Int32 → Int32 → Int32 → Int32 → (Nat → Int32) → Option (Int32 × Int32 × Int32 × Int32)} (X : Cx Γ p s m args meth c RX0 cX0_reckonMarked 6 none w0) (h18 : ∀ (x2 : Int32) (x3 : Int32) (x4 : Int32) (x5 : Int32) (blo : Int32) (bwh : Int32) (bow : Int32) (bom : Int32) (csw : Int32) (csi : Int32) (cab : Int32) (cfa : Nat → Int32), rc18 x2 x3 x4 x5 blo bwh bow bom csw csi cab cfa = some (blo_z, bwh_z, bow_z, bom_z) → ∀ (H : Heap) (locs : List Loc) (ls : Array Slot), Wd Γ w0 s ((WB Γ Ab blo bwh bow bom) ++ (WC Γ Ac csw cca csi cab cun csg cfa che cst)) H locs → lv_has ls 6 [(0, .ref (Ab 0)), (1, .ref (Ac 0)), (2, .int x2), (3, .int x3), (4, .int x4), (5, .int x5)] → W p l e rmB_reckonMarked s m args below meth c H locs 0 0 (EV Γ below args s w0 ((WB Γ Ab blo_z bwh_z bow_z bom_z) ++ (WC Γ Ac csw cca csi cab cun csg cfa che cst))) (F0 m 18 ls [])) (hf : B_reckonMarked_50 rc18 x2 x3 x4 x5 y0 y1 y2 blo bwh bow bom csw csi cab cfa = some (blo_z, bwh_z, bow_z, bom_z)) (Y : Wd Γ w0 s ((WB Γ Ab blo bwh bow bom) ++ (WC Γ Ac csw cca csi cab cun csg cfa che cst)) H locs) (hl : lv_has ls 6 [(0, .ref (Ab 0)), (1, .ref (Ac 0)), (2, .int x2), (3, .int x3), (4, .int x4), (5, .int x5)]) : W p l e rmB_reckonMarked s m args below meth c H locs 0 0 (EV Γ below args s w0 ((WB Γ Ab blo_z bwh_z bow_z bom_z) ++ (WC Γ Ac csw cca csi cab cun csg cfa che cst))) (F0 m 50 ls [.int y0, .int y1, .int y2, .ref (Ac 0), .ref (Ab 0)]) := by
  have hx := X.1
  have hb := X.2.1
  obtain ⟨blo_1, bwh_2, bow_3, bom_4, ho_6, hf⟩ := bd4_some hf
  refine t_v Y (bkS Y) (r_V (As := [.ref (Ac 0), .int y2, .int y1, .int y0]) (rest := []) X (c_preS X Y) (cB_enter ho_6) (cwX0_47 X (by decide)) (va_recv X.K Y.1 (q := (RX0, TX0, 5)) (q0 := 0) (ci := 0) rfl rfl) rfl hl.1 (Nat.le_of_ble_eq_true rfl) rfl dX0_reckonMarked_50 ⟨Nat.zero_le _, Nat.zero_le _⟩) (fun H locs Y => ?_)
  obtain ⟨x5_5, e_x5_5⟩ : ∃ z : Int32, z = (x5 + (1 : Int32)) := ⟨_, rfl⟩
  have hf := bnd_eq hf e_x5_5
  refine lv_iinc (v := x5_5) (lv' := [(5, .int x5_5), (0, .ref (Ab 0)), (1, .ref (Ac 0)), (2, .int x2), (3, .int x3), (4, .int x4)]) hx hb dX0_reckonMarked_53 hl (k := 5) rfl (by rw [e_x5_5]; rfl) (by decide) rfl (fun ls hl => ?_)
  refine lv_goto (tgt := 18) hx hb dX0_reckonMarked_56 (by decide) ?_
  exact h18 _ _ _ _ _ _ _ _ _ _ _ _ hf _ _ _ Y (lv_sub hl [1, 2, 3, 4, 5, 0] rfl)
def B_reckonMarked_18 (rc18 : Int32 → Int32 → Int32 → Int32 → Int32 → Int32 → Int32 → Int32 → Int32 → Int32 → Int32 → (Nat → Int32) → Option (Int32 × Int32 × Int32 × Int32)) (x2 : Int32) (x3 : Int32) (x4 : Int32) (x5 : Int32) (blo : Int32) (bwh : Int32) (bow : Int32) (bom : Int32) (csw : Int32) (csi : Int32) (cab : Int32) (cfa : Nat → Int32) : Option (Int32 × Int32 × Int32 × Int32) := if csi ≤ x5 then (some (blo, bwh, bow, bom)) else (if x5 = x2 then (B_reckonMarked_50 rc18 x2 x3 x4 x5 x3 x5 x4 blo bwh bow bom csw csi cab cfa) else (bd1 (C_fact x5 (5 : Int32) csi cfa) (fun (r_3 : Int32) => B_reckonMarked_50 rc18 x2 x3 x4 x5 r_3 x5 x4 blo bwh bow bom csw csi cab cfa)))
set_option maxHeartbeats 4000000 in
set_option maxRecDepth 100000 in
theorem bB_reckonMarked_18 {Ab : Nat → Nat} {Ac : Nat → Nat} {blo : Int32} {bwh : Int32} {bow : Int32} {bom : Int32} {csw : Int32} {cca : Int32} {csi : Int32} {cab : Int32} {cun : Int32} {csg : Int32} {cfa : Nat → Int32} {che : Nat → Int32} {cst : Nat → Int32} {blo_z : Int32} {bwh_z : Int32} {bow_z : Int32} {bom_z : Int32} {x2 : Int32} {x3 : Int32} {x4 : Int32} {x5 : Int32} {rc18 : Int32 → Int32 → Int32 → Int32 → Int32 → Int32 → Int32 → Int32 → Int32 → Int32 → Int32 → (Nat → Int32) → Option (Int32 × Int32 × Int32 × Int32)} (X : Cx Γ p s m args meth c RX0 cX0_reckonMarked 6 none w0) (h18 : ∀ (x2 : Int32) (x3 : Int32) (x4 : Int32) (x5 : Int32) (blo : Int32) (bwh : Int32) (bow : Int32) (bom : Int32) (csw : Int32) (csi : Int32) (cab : Int32) (cfa : Nat → Int32), rc18 x2 x3 x4 x5 blo bwh bow bom csw csi cab cfa = some (blo_z, bwh_z, bow_z, bom_z) → ∀ (H : Heap) (locs : List Loc) (ls : Array Slot), Wd Γ w0 s ((WB Γ Ab blo bwh bow bom) ++ (WC Γ Ac csw cca csi cab cun csg cfa che cst)) H locs → lv_has ls 6 [(0, .ref (Ab 0)), (1, .ref (Ac 0)), (2, .int x2), (3, .int x3), (4, .int x4), (5, .int x5)] → W p l e rmB_reckonMarked s m args below meth c H locs 0 0 (EV Γ below args s w0 ((WB Γ Ab blo_z bwh_z bow_z bom_z) ++ (WC Γ Ac csw cca csi cab cun csg cfa che cst))) (F0 m 18 ls [])) (hf : B_reckonMarked_18 rc18 x2 x3 x4 x5 blo bwh bow bom csw csi cab cfa = some (blo_z, bwh_z, bow_z, bom_z)) (Y : Wd Γ w0 s ((WB Γ Ab blo bwh bow bom) ++ (WC Γ Ac csw cca csi cab cun csg cfa che cst)) H locs) (hl : lv_has ls 6 [(0, .ref (Ab 0)), (1, .ref (Ac 0)), (2, .int x2), (3, .int x3), (4, .int x4), (5, .int x5)]) : W p l e rmB_reckonMarked s m args below meth c H locs 0 0 (EV Γ below args s w0 ((WB Γ Ab blo_z bwh_z bow_z bom_z) ++ (WC Γ Ac csw cca csi cab cun csg cfa che cst))) (F0 m 18 ls []) := by
  have hx := X.1
  have hb := X.2.1
  refine lv_iload hx hb dX0_reckonMarked_18 (lv_at hl 5 rfl) ?_
  refine lv_aload_n hx hb dX0_reckonMarked_20 rfl (lv_at hl 1 rfl) ?_
  refine gfX0_37 X Y (v := .int csi) 8 rfl rfl dX0_reckonMarked_21 ?_
  refine lv_icmp_ge (tgt := 59) hx hb dX0_reckonMarked_24 (by decide) (fun c_1 => ?_) (fun c_1 => ?_)
  · have hf := ite_t hf c_1
    obtain ⟨e90, e91, e92, e93⟩ := sj4 hf
    subst e90
    subst e91
    subst e92
    subst e93
    exact x_vret X Y dX0_reckonMarked_59
  · have hf := ite_f hf c_1
    refine lv_aload_n hx hb dX0_reckonMarked_27 rfl (lv_at hl 0 rfl) ?_
    refine lv_aload_n hx hb dX0_reckonMarked_28 rfl (lv_at hl 1 rfl) ?_
    refine lv_iload hx hb dX0_reckonMarked_29 (lv_at hl 4 rfl) ?_
    refine lv_iload hx hb dX0_reckonMarked_31 (lv_at hl 5 rfl) ?_
    refine lv_iload hx hb dX0_reckonMarked_33 (lv_at hl 5 rfl) ?_
    refine lv_iload_n hx hb dX0_reckonMarked_35 rfl (lv_at hl 2 rfl) ?_
    refine lv_icmp_ne (tgt := 43) hx hb dX0_reckonMarked_36 (by decide) (fun c_2 => ?_) (fun c_2 => ?_)
    · have hf := ite_f hf c_2
      refine lv_aload_n hx hb dX0_reckonMarked_43 rfl (lv_at hl 1 rfl) ?_
      refine lv_iload hx hb dX0_reckonMarked_44 (lv_at hl 5 rfl) ?_
      refine lv_iconst (v := (5 : Int32)) hx hb dX0_reckonMarked_46 (by decide) ?_
      obtain ⟨r_3, ho_4, hf⟩ := bd1_some hf
      refine t_i Y (bkE Y [8, 9, 10, 11] rfl) (r_V (As := [.int x5, .int (5 : Int32)]) (rest := [.int x5, .int x4, .ref (Ac 0), .ref (Ab 0)]) X (c_pre X Y [8, 9, 10, 11] rfl rfl) (cC_fact ho_4) (cwX0_43 X (by decide)) (va_recv X.K Y.1 (q := (RX1, TX1, 9)) (q0 := 8) (ci := 1) rfl rfl) rfl hl.1 (Nat.le_of_ble_eq_true rfl) rfl dX0_reckonMarked_47 ⟨Nat.zero_le _, Nat.zero_le _⟩) (fun H locs Y => ?_)
      exact bB_reckonMarked_50 X h18 hf Y (lv_sub hl [0, 1, 2, 3, 4, 5] rfl)
    · have hf := ite_t hf c_2
      refine lv_iload_n hx hb dX0_reckonMarked_39 rfl (lv_at hl 3 rfl) ?_
      refine lv_goto (tgt := 50) hx hb dX0_reckonMarked_40 (by decide) ?_
      exact bB_reckonMarked_50 X h18 hf Y (lv_sub hl [0, 1, 2, 3, 4, 5] rfl)
def B_reckonMarked_L18 : Nat → Int32 → Int32 → Int32 → Int32 → Int32 → Int32 → Int32 → Int32 → Int32 → Int32 → Int32 → (Nat → Int32) → Option (Int32 × Int32 × Int32 × Int32)
  | 0, _, _, _, _, _, _, _, _, _, _, _, _ => none
  | n + 1, x2, x3, x4, x5, blo, bwh, bow, bom, csw, csi, cab, cfa => B_reckonMarked_18 (B_reckonMarked_L18 n) x2 x3 x4 x5 blo bwh bow bom csw csi cab cfa
theorem lB_reckonMarked_18 {Ab : Nat → Nat} {Ac : Nat → Nat} {cca : Int32} {cun : Int32} {csg : Int32} {che : Nat → Int32} {cst : Nat → Int32} {blo_z : Int32} {bwh_z : Int32} {bow_z : Int32} {bom_z : Int32} (X : Cx Γ p s m args meth c RX0 cX0_reckonMarked 6 none w0) : ∀ (n : Nat) (x2 : Int32) (x3 : Int32) (x4 : Int32) (x5 : Int32) (blo : Int32) (bwh : Int32) (bow : Int32) (bom : Int32) (csw : Int32) (csi : Int32) (cab : Int32) (cfa : Nat → Int32), B_reckonMarked_L18 n x2 x3 x4 x5 blo bwh bow bom csw csi cab cfa = some (blo_z, bwh_z, bow_z, bom_z) → ∀ (H : Heap) (locs : List Loc) (ls : Array Slot), Wd Γ w0 s ((WB Γ Ab blo bwh bow bom) ++ (WC Γ Ac csw cca csi cab cun csg cfa che cst)) H locs → lv_has ls 6 [(0, .ref (Ab 0)), (1, .ref (Ac 0)), (2, .int x2), (3, .int x3), (4, .int x4), (5, .int x5)] → W p l e rmB_reckonMarked s m args below meth c H locs 0 0 (EV Γ below args s w0 ((WB Γ Ab blo_z bwh_z bow_z bom_z) ++ (WC Γ Ac csw cca csi cab cun csg cfa che cst))) (F0 m 18 ls []) := by
  intro n
  induction n with
  | zero => intro x2 x3 x4 x5 blo bwh bow bom csw csi cab cfa hf; cases hf
  | succ n ih => intro x2 x3 x4 x5 blo bwh bow bom csw csi cab cfa hf H locs ls Y hl; exact bB_reckonMarked_18 X ih hf Y hl
def B_reckonMarked (x2 : Int32) (x3 : Int32) (blo : Int32) (bwh : Int32) (bow : Int32) (bom : Int32) (csw : Int32) (csi : Int32) (cab : Int32) (cfa : Nat → Int32) : Option (Int32 × Int32 × Int32 × Int32) := bd1 (C_fact x2 (1 : Int32) csi cfa) (fun (r_1 : Int32) => bd4 (B_begin r_1 blo bwh bow bom csw) (fun (blo_2 : Int32) (bwh_3 : Int32) (bow_4 : Int32) (bom_5 : Int32) => B_reckonMarked_L18 FU x2 x3 r_1 (0 : Int32) blo_2 bwh_3 bow_4 bom_5 csw csi cab cfa))
set_option maxHeartbeats 4000000 in
set_option maxRecDepth 100000 in
theorem bB_reckonMarked_e {Ab : Nat → Nat} {Ac : Nat → Nat} {blo : Int32} {bwh : Int32} {bow : Int32} {bom : Int32} {csw : Int32} {cca : Int32} {csi : Int32} {cab : Int32} {cun : Int32} {csg : Int32} {cfa : Nat → Int32} {che : Nat → Int32} {cst : Nat → Int32} {blo_z : Int32} {bwh_z : Int32} {bow_z : Int32} {bom_z : Int32} {x2 : Int32} {x3 : Int32} (X : Cx Γ p s m args meth c RX0 cX0_reckonMarked 6 none w0) (hf : B_reckonMarked x2 x3 blo bwh bow bom csw csi cab cfa = some (blo_z, bwh_z, bow_z, bom_z)) (Y : Wd Γ w0 s ((WB Γ Ab blo bwh bow bom) ++ (WC Γ Ac csw cca csi cab cun csg cfa che cst)) H locs) (hl : lv_has ls 6 [(0, .ref (Ab 0)), (1, .ref (Ac 0)), (2, .int x2), (3, .int x3)]) : W p l e rmB_reckonMarked s m args below meth c H locs 0 0 (EV Γ below args s w0 ((WB Γ Ab blo_z bwh_z bow_z bom_z) ++ (WC Γ Ac csw cca csi cab cun csg cfa che cst))) (F0 m 0 ls []) := by
  have hx := X.1
  have hb := X.2.1
  refine lv_aload_n hx hb dX0_reckonMarked_0 rfl (lv_at hl 1 rfl) ?_
  refine lv_iload_n hx hb dX0_reckonMarked_1 rfl (lv_at hl 2 rfl) ?_
  refine lv_iconst (v := (1 : Int32)) hx hb dX0_reckonMarked_2 (by decide) ?_
  obtain ⟨r_1, ho_7, hf⟩ := bd1_some hf
  refine t_i Y (bkE Y [8, 9, 10, 11] rfl) (r_V (As := [.int x2, .int (1 : Int32)]) (rest := []) X (c_pre X Y [8, 9, 10, 11] rfl rfl) (cC_fact ho_7) (cwX0_43 X (by decide)) (va_recv X.K Y.1 (q := (RX1, TX1, 9)) (q0 := 8) (ci := 1) rfl rfl) rfl hl.1 (Nat.le_of_ble_eq_true rfl) rfl dX0_reckonMarked_3 ⟨Nat.zero_le _, Nat.zero_le _⟩) (fun H locs Y => ?_)
  refine lv_istore (lv' := [(4, .int r_1), (0, .ref (Ab 0)), (1, .ref (Ac 0)), (2, .int x2), (3, .int x3)]) hx hb dX0_reckonMarked_6 hl (by decide) rfl (fun ls hl => ?_)
  refine lv_aload_n hx hb dX0_reckonMarked_8 rfl (lv_at hl 1 rfl) ?_
  refine lv_aload_n hx hb dX0_reckonMarked_9 rfl (lv_at hl 2 rfl) ?_
  refine lv_iload hx hb dX0_reckonMarked_10 (lv_at hl 0 rfl) ?_
  obtain ⟨blo_2, bwh_3, bow_4, bom_5, ho_6, hf⟩ := bd4_some hf
  refine t_v Y (bkS Y) (r_V (As := [.ref (Ac 0), .int r_1]) (rest := []) X (c_preS X Y) (cB_begin ho_6) (cwX0_33 X (by decide)) (va_recv X.K Y.1 (q := (RX0, TX0, 5)) (q0 := 0) (ci := 0) rfl rfl) rfl hl.1 (Nat.le_of_ble_eq_true rfl) rfl dX0_reckonMarked_12 ⟨Nat.zero_le _, Nat.zero_le _⟩) (fun H locs Y => ?_)
  refine lv_iconst (v := (0 : Int32)) hx hb dX0_reckonMarked_15 (by decide) ?_
  refine lv_istore (lv' := [(5, .int (0 : Int32)), (4, .int r_1), (0, .ref (Ab 0)), (1, .ref (Ac 0)), (2, .int x2), (3, .int x3)]) hx hb dX0_reckonMarked_16 hl (by decide) rfl (fun ls hl => ?_)
  exact lB_reckonMarked_18 X _ _ _ _ _ _ _ _ _ _ _ _ _ hf _ _ _ Y (lv_sub hl [2, 3, 4, 5, 1, 0] rfl)
theorem cB_reckonMarked {l : Launch} {Γ : Gm} {Ab : Nat → Nat} {Ac : Nat → Nat} {blo : Int32} {bwh : Int32} {bow : Int32} {bom : Int32} {csw : Int32} {cca : Int32} {csi : Int32} {cab : Int32} {cun : Int32} {csg : Int32} {cfa : Nat → Int32} {che : Nat → Int32} {cst : Nat → Int32} {blo_z : Int32} {bwh_z : Int32} {bow_z : Int32} {bom_z : Int32} {x2 : Int32} {x3 : Int32} (h : B_reckonMarked x2 x3 blo bwh bow bom csw csi cab cfa = some (blo_z, bwh_z, bow_z, bom_z)) : CV l Γ yX0_reckonMarked (Cond.code yX0_reckonMarked cX0_reckonMarked 6 none :: GW) rmB_reckonMarked [.ref (Ab 0), .ref (Ac 0), .int x2, .int x3] ((WB Γ Ab blo bwh bow bom) ++ (WC Γ Ac csw cca csi cab cun csg cfa che cst)) ((WB Γ Ab blo_z bwh_z bow_z bom_z) ++ (WC Γ Ac csw cca csi cab cun csg cfa che cst)) := ofBody (Qc := QcV Γ _ _) (by decide) (Nat.le_of_ble_eq_true rfl) (fun p e s m below meth c ls _ X Y hl => bB_reckonMarked_e X h Y hl)
def rmB_madeGoodOf : Room := { frames := 3, cells := 0, slots := 0, locals := 67 }
def B_madeGoodOf (x2 : Int32) (csi : Int32) (cfa : Nat → Int32) : Option (Int32) := bd1 (B_kindOf x2 csi cfa) (fun (r_1 : Nat) => bd1 (C_fact x2 (5 : Int32) csi cfa) (fun (r_2 : Int32) => bd1 (K_madeGood r_1 r_2) (fun (r_3 : Int32) => some r_3)))
set_option maxHeartbeats 4000000 in
set_option maxRecDepth 100000 in
theorem bB_madeGoodOf_e {Ab : Nat → Nat} {Ac : Nat → Nat} {blo : Int32} {bwh : Int32} {bow : Int32} {bom : Int32} {csw : Int32} {cca : Int32} {csi : Int32} {cab : Int32} {cun : Int32} {csg : Int32} {cfa : Nat → Int32} {che : Nat → Int32} {cst : Nat → Int32} {r0 : Int32} {x2 : Int32} (X : Cx Γ p s m args meth c RX0 cX0_madeGoodOf 3 (some .int) w0) (hf : B_madeGoodOf x2 csi cfa = some r0) (Y : Wd Γ w0 s ((WB Γ Ab blo bwh bow bom) ++ (WC Γ Ac csw cca csi cab cun csg cfa che cst)) H locs) (hl : lv_has ls 3 [(0, .ref (Ab 0)), (1, .ref (Ac 0)), (2, .int x2)]) : W p l e rmB_madeGoodOf s m args below meth c H locs 0 0 (EI Γ below args s w0 ((WB Γ Ab blo bwh bow bom) ++ (WC Γ Ac csw cca csi cab cun csg cfa che cst)) r0) (F0 m 0 ls []) := by
  have hx := X.1
  have hb := X.2.1
  refine lv_aload_n hx hb dX0_madeGoodOf_0 rfl (lv_at hl 0 rfl) ?_
  refine lv_aload_n hx hb dX0_madeGoodOf_1 rfl (lv_at hl 1 rfl) ?_
  refine lv_iload_n hx hb dX0_madeGoodOf_2 rfl (lv_at hl 2 rfl) ?_
  obtain ⟨r_1, ho_6, hf⟩ := bd1_some hf
  refine t_r Y (bkS Y) (r_V (As := [.ref (Ac 0), .int x2]) (rest := []) X (c_preS X Y) (cB_kindOf ho_6) (cwX0_66 X (by decide)) (va_recv X.K Y.1 (q := (RX0, TX0, 5)) (q0 := 0) (ci := 0) rfl rfl) rfl hl.1 (Nat.le_of_ble_eq_true rfl) rfl dX0_madeGoodOf_3 ⟨Nat.zero_le _, Nat.zero_le _⟩) (fun H locs Y => ?_)
  refine lv_aload_n hx hb dX0_madeGoodOf_6 rfl (lv_at hl 1 rfl) ?_
  refine lv_iload_n hx hb dX0_madeGoodOf_7 rfl (lv_at hl 2 rfl) ?_
  refine lv_iconst (v := (5 : Int32)) hx hb dX0_madeGoodOf_8 (by decide) ?_
  obtain ⟨r_2, ho_5, hf⟩ := bd1_some hf
  refine t_i Y (bkE Y [8, 9, 10, 11] rfl) (r_V (As := [.int x2, .int (5 : Int32)]) (rest := [.ref (Ab (2 + r_1))]) X (c_pre X Y [8, 9, 10, 11] rfl rfl) (cC_fact ho_5) (cwX0_43 X (by decide)) (va_recv X.K Y.1 (q := (RX1, TX1, 9)) (q0 := 8) (ci := 1) rfl rfl) rfl hl.1 (Nat.le_of_ble_eq_true rfl) rfl dX0_madeGoodOf_9 ⟨Nat.zero_le _, Nat.zero_le _⟩) (fun H locs Y => ?_)
  obtain ⟨r_3, ho_4, hf⟩ := bd1_some hf
  refine kd_madeGood (Ab := Ab) X Y rfl rfl rfl rfl rfl rfl ho_4 hl.1 (Nat.le_of_ble_eq_true rfl) dX0_madeGoodOf_12 (by decide) (Nat.zero_le _) (Nat.zero_le _) (fun H locs Y => ?_)
  have e90 := Option.some.inj hf
  subst e90
  exact x_iret X Y dX0_madeGoodOf_15
theorem cB_madeGoodOf {l : Launch} {Γ : Gm} {Ab : Nat → Nat} {Ac : Nat → Nat} {blo : Int32} {bwh : Int32} {bow : Int32} {bom : Int32} {csw : Int32} {cca : Int32} {csi : Int32} {cab : Int32} {cun : Int32} {csg : Int32} {cfa : Nat → Int32} {che : Nat → Int32} {cst : Nat → Int32} {r0 : Int32} {x2 : Int32} (h : B_madeGoodOf x2 csi cfa = some r0) : CI l Γ yX0_madeGoodOf (Cond.code yX0_madeGoodOf cX0_madeGoodOf 3 (some .int) :: GW) rmB_madeGoodOf [.ref (Ab 0), .ref (Ac 0), .int x2] ((WB Γ Ab blo bwh bow bom) ++ (WC Γ Ac csw cca csi cab cun csg cfa che cst)) ((WB Γ Ab blo bwh bow bom) ++ (WC Γ Ac csw cca csi cab cun csg cfa che cst)) r0 := ofBody (Qc := QcI Γ _ _ r0) (by decide) (Nat.le_of_ble_eq_true rfl) (fun p e s m below meth c ls _ X Y hl => bB_madeGoodOf_e X h Y hl)
def rmB_below : Room := { frames := 0, cells := 0, slots := 0, locals := 0 }
def B_below (bwh : Int32) : Option (Int64) := if bwh = 0 then (some (1 : Int64)) else (some bwh.toInt64)
set_option maxHeartbeats 4000000 in
set_option maxRecDepth 100000 in
theorem bB_below_e {Ab : Nat → Nat} {blo : Int32} {bwh : Int32} {bow : Int32} {bom : Int32} {r0 : Int64} (X : Cx Γ p s m args meth c RX0 cX0_below 1 (some .long) w0) (hf : B_below bwh = some r0) (Y : Wd Γ w0 s (WB Γ Ab blo bwh bow bom) H locs) (hl : lv_has ls 1 [(0, .ref (Ab 0))]) : W p l e rmB_below s m args below meth c H locs 0 0 (EL Γ below args s w0 (WB Γ Ab blo bwh bow bom) r0) (F0 m 0 ls []) := by
  have hx := X.1
  have hb := X.2.1
  refine lv_aload_n hx hb dX0_below_0 rfl (lv_at hl 0 rfl) ?_
  refine gfX0_57 X Y (v := .int bwh) 0 rfl rfl dX0_below_1 ?_
  refine lv_if_ne (tgt := 11) hx hb dX0_below_4 (by decide) (fun c_1 => ?_) (fun c_1 => ?_)
  · have hf := ite_f hf c_1
    refine lv_aload_n hx hb dX0_below_11 rfl (lv_at hl 0 rfl) ?_
    refine gfX0_57 X Y (v := .int bwh) 0 rfl rfl dX0_below_12 ?_
    refine lv_i2l (v := bwh.toInt64) hx hb dX0_below_15 rfl ?_
    have e90 := Option.some.inj hf
    subst e90
    exact x_lret X Y dX0_below_16
  · have hf := ite_t hf c_1
    refine lv_lconst (v := (1 : Int64)) hx hb dX0_below_7 (by decide) ?_
    refine lv_goto (tgt := 16) hx hb dX0_below_8 (by decide) ?_
    have e90 := Option.some.inj hf
    subst e90
    exact x_lret X Y dX0_below_16
theorem cB_below {l : Launch} {Γ : Gm} {Ab : Nat → Nat} {blo : Int32} {bwh : Int32} {bow : Int32} {bom : Int32} {r0 : Int64} (h : B_below bwh = some r0) : CL l Γ yX0_below (Cond.code yX0_below cX0_below 1 (some .long) :: GW) rmB_below [.ref (Ab 0)] (WB Γ Ab blo bwh bow bom) (WB Γ Ab blo bwh bow bom) r0 := ofBody (Qc := QcL Γ _ _ r0) (by decide) (Nat.le_of_ble_eq_true rfl) (fun p e s m below meth c ls _ X Y hl => bB_below_e X h Y hl)
def rmB_shareAbove : Room := { frames := 0, cells := 0, slots := 0, locals := 0 }
def B_shareAbove (blo : Int32) (bow : Int32) : Option (Int64) := some (blo.toInt64 * bow.toInt64)
set_option maxHeartbeats 4000000 in
set_option maxRecDepth 100000 in
theorem bB_shareAbove_e {Ab : Nat → Nat} {blo : Int32} {bwh : Int32} {bow : Int32} {bom : Int32} {r0 : Int64} (X : Cx Γ p s m args meth c RX0 cX0_shareAbove 1 (some .long) w0) (hf : B_shareAbove blo bow = some r0) (Y : Wd Γ w0 s (WB Γ Ab blo bwh bow bom) H locs) (hl : lv_has ls 1 [(0, .ref (Ab 0))]) : W p l e rmB_shareAbove s m args below meth c H locs 0 0 (EL Γ below args s w0 (WB Γ Ab blo bwh bow bom) r0) (F0 m 0 ls []) := by
  have hx := X.1
  have hb := X.2.1
  refine lv_aload_n hx hb dX0_shareAbove_0 rfl (lv_at hl 0 rfl) ?_
  refine gfX0_51 X Y (v := .int blo) 0 rfl rfl dX0_shareAbove_1 ?_
  refine lv_i2l (v := blo.toInt64) hx hb dX0_shareAbove_4 rfl ?_
  refine lv_aload_n hx hb dX0_shareAbove_5 rfl (lv_at hl 0 rfl) ?_
  refine gfX0_60 X Y (v := .int bow) 0 rfl rfl dX0_shareAbove_6 ?_
  refine lv_i2l (v := bow.toInt64) hx hb dX0_shareAbove_9 rfl ?_
  refine lv_lmul hx hb dX0_shareAbove_10 ?_
  have e90 := Option.some.inj hf
  subst e90
  exact x_lret X Y dX0_shareAbove_11
theorem cB_shareAbove {l : Launch} {Γ : Gm} {Ab : Nat → Nat} {blo : Int32} {bwh : Int32} {bow : Int32} {bom : Int32} {r0 : Int64} (h : B_shareAbove blo bow = some r0) : CL l Γ yX0_shareAbove (Cond.code yX0_shareAbove cX0_shareAbove 1 (some .long) :: GW) rmB_shareAbove [.ref (Ab 0)] (WB Γ Ab blo bwh bow bom) (WB Γ Ab blo bwh bow bom) r0 := ofBody (Qc := QcL Γ _ _ r0) (by decide) (Nat.le_of_ble_eq_true rfl) (fun p e s m below meth c ls _ X Y hl => bB_shareAbove_e X h Y hl)
theorem dmX0_belowV : yX0_below.cls = RX0 ∧ yX0_below.cls ≠ "java/lang/invoke/MethodHandle" ∧ yX0_below.cls ≠ "java/lang/invoke/VarHandle" ∧ (parseMethodDescriptor yX0_below.desc).map (fun d => d.parameters.length) = some 0 := by decide +kernel
theorem cwX0_92 (X : Cx Γ p s m args meth c RX0 cc nL ret w0) (hR : rmB_below.frames + 1 ≤ R.frames ∧ 8 + (1 + 11) + rmB_below.locals ≤ R.locals) : CallW R s args RX0 RX0 92 yX0_below cX0_below 1 (some .long) (Cond.code yX0_below cX0_below 1 (some .long) :: GW) rmB_below 0 0 0 := cw_V X kw344 kw345 kw346 kw333 kw347 dmX0_belowV rfl rfl hR
theorem dmX0_shareAboveV : yX0_shareAbove.cls = RX0 ∧ yX0_shareAbove.cls ≠ "java/lang/invoke/MethodHandle" ∧ yX0_shareAbove.cls ≠ "java/lang/invoke/VarHandle" ∧ (parseMethodDescriptor yX0_shareAbove.desc).map (fun d => d.parameters.length) = some 0 := by decide +kernel
theorem cwX0_88 (X : Cx Γ p s m args meth c RX0 cc nL ret w0) (hR : rmB_shareAbove.frames + 1 ≤ R.frames ∧ 8 + (1 + 11) + rmB_shareAbove.locals ≤ R.locals) : CallW R s args RX0 RX0 88 yX0_shareAbove cX0_shareAbove 1 (some .long) (Cond.code yX0_shareAbove cX0_shareAbove 1 (some .long) :: GW) rmB_shareAbove 0 0 0 := cw_V X kw348 kw349 kw350 kw333 kw351 dmX0_shareAboveV rfl rfl hR
def rmB_netAbove : Room := { frames := 1, cells := 0, slots := 0, locals := 20 }
def B_netAbove (blo : Int32) (bwh : Int32) (bow : Int32) (bom : Int32) : Option (Int64) := bd1 (B_shareAbove blo bow) (fun (r_1 : Int64) => bd1 (B_below bwh) (fun (r_2 : Int64) => some (r_1 - (bom.toInt64 * r_2))))
set_option maxHeartbeats 4000000 in
set_option maxRecDepth 100000 in
theorem bB_netAbove_e {Ab : Nat → Nat} {blo : Int32} {bwh : Int32} {bow : Int32} {bom : Int32} {r0 : Int64} (X : Cx Γ p s m args meth c RX0 cX0_netAbove 1 (some .long) w0) (hf : B_netAbove blo bwh bow bom = some r0) (Y : Wd Γ w0 s (WB Γ Ab blo bwh bow bom) H locs) (hl : lv_has ls 1 [(0, .ref (Ab 0))]) : W p l e rmB_netAbove s m args below meth c H locs 0 0 (EL Γ below args s w0 (WB Γ Ab blo bwh bow bom) r0) (F0 m 0 ls []) := by
  have hx := X.1
  have hb := X.2.1
  refine lv_aload_n hx hb dX0_netAbove_0 rfl (lv_at hl 0 rfl) ?_
  obtain ⟨r_1, ho_4, hf⟩ := bd1_some hf
  refine t_l Y (bkS Y) (r_V (As := []) (rest := []) X (c_preS X Y) (cB_shareAbove ho_4) (cwX0_88 X (by decide)) (va_recv X.K Y.1 (q := (RX0, TX0, 5)) (q0 := 0) (ci := 0) rfl rfl) rfl hl.1 (Nat.le_of_ble_eq_true rfl) rfl dX0_netAbove_1 ⟨Nat.zero_le _, Nat.zero_le _⟩) (fun H locs Y => ?_)
  refine lv_aload_n hx hb dX0_netAbove_4 rfl (lv_at hl 0 rfl) ?_
  refine gfX0_63 X Y (v := .int bom) 0 rfl rfl dX0_netAbove_5 ?_
  refine lv_i2l (v := bom.toInt64) hx hb dX0_netAbove_8 rfl ?_
  refine lv_aload_n hx hb dX0_netAbove_9 rfl (lv_at hl 0 rfl) ?_
  obtain ⟨r_2, ho_3, hf⟩ := bd1_some hf
  refine t_l Y (bkS Y) (r_V (As := []) (rest := [.long bom.toInt64, .long r_1]) X (c_preS X Y) (cB_below ho_3) (cwX0_92 X (by decide)) (va_recv X.K Y.1 (q := (RX0, TX0, 5)) (q0 := 0) (ci := 0) rfl rfl) rfl hl.1 (Nat.le_of_ble_eq_true rfl) rfl dX0_netAbove_10 ⟨Nat.zero_le _, Nat.zero_le _⟩) (fun H locs Y => ?_)
  refine lv_lmul hx hb dX0_netAbove_13 ?_
  refine lv_lsub hx hb dX0_netAbove_14 ?_
  have e90 := Option.some.inj hf
  subst e90
  exact x_lret X Y dX0_netAbove_15
theorem cB_netAbove {l : Launch} {Γ : Gm} {Ab : Nat → Nat} {blo : Int32} {bwh : Int32} {bow : Int32} {bom : Int32} {r0 : Int64} (h : B_netAbove blo bwh bow bom = some r0) : CL l Γ yX0_netAbove (Cond.code yX0_netAbove cX0_netAbove 1 (some .long) :: GW) rmB_netAbove [.ref (Ab 0)] (WB Γ Ab blo bwh bow bom) (WB Γ Ab blo bwh bow bom) r0 := ofBody (Qc := QcL Γ _ _ r0) (by decide) (Nat.le_of_ble_eq_true rfl) (fun p e s m below meth c ls _ X Y hl => bB_netAbove_e X h Y hl)
def rmF_greatestCommon : Room := { frames := 0, cells := 0, slots := 0, locals := 0 }
def F_greatestCommon_3 (rc3 : Int64 → Int64 → Int32 → Option (Int64)) (x0 : Int64) (x2 : Int64) (x4 : Int32) : Option (Int64) := if (100 : Int32) ≤ x4 then (some x0) else (if (lg_cmp x2 (0 : Int64)) = 0 then (some x0) else (ck (decide (¬ x2 = 0)) (bnd (x0 - x0 / x2 * x2) (fun (x5_4 : Int64) => bnd (x4 + (1 : Int32)) (fun (x4_5 : Int32) => rc3 x2 x5_4 x4_5)))))
set_option maxHeartbeats 4000000 in
set_option maxRecDepth 100000 in
theorem bF_greatestCommon_3 {r0 : Int64} {x0 : Int64} {x2 : Int64} {x4 : Int32} {rc3 : Int64 → Int64 → Int32 → Option (Int64)} (X : Cx Γ p s m args meth c RX3 cX3_greatestCommon 7 (some .long) w0) (h3 : ∀ (x0 : Int64) (x2 : Int64) (x4 : Int32), rc3 x0 x2 x4 = some r0 → ∀ (H : Heap) (locs : List Loc) (ls : Array Slot), Wd Γ w0 s ([] : va_W) H locs → lv_has ls 7 [(0, .long x0), (2, .long x2), (4, .int x4)] → W p l e rmF_greatestCommon s m args below meth c H locs 0 0 (EL Γ below args s w0 ([] : va_W) r0) (F0 m 3 ls [])) (hf : F_greatestCommon_3 rc3 x0 x2 x4 = some r0) (Y : Wd Γ w0 s ([] : va_W) H locs) (hl : lv_has ls 7 [(0, .long x0), (2, .long x2), (4, .int x4)]) : W p l e rmF_greatestCommon s m args below meth c H locs 0 0 (EL Γ below args s w0 ([] : va_W) r0) (F0 m 3 ls []) := by
  have hx := X.1
  have hb := X.2.1
  refine lv_iload hx hb dX3_greatestCommon_3 (lv_at hl 2 rfl) ?_
  refine lv_bipush (v := (100 : Int32)) hx hb dX3_greatestCommon_5 (by decide) ?_
  refine lv_icmp_ge (tgt := 32) hx hb dX3_greatestCommon_7 (by decide) (fun c_1 => ?_) (fun c_1 => ?_)
  · have hf := ite_t hf c_1
    refine lv_lload_n hx hb dX3_greatestCommon_32 rfl (lv_at hl 0 rfl) ?_
    have e90 := Option.some.inj hf
    subst e90
    exact x_lret X Y dX3_greatestCommon_33
  · have hf := ite_f hf c_1
    refine lv_lload_n hx hb dX3_greatestCommon_10 rfl (lv_at hl 1 rfl) ?_
    refine lv_lconst (v := (0 : Int64)) hx hb dX3_greatestCommon_11 (by decide) ?_
    refine W.lcmp hx hb dX3_greatestCommon_12 ?_
    refine lv_if_eq (tgt := 32) hx hb dX3_greatestCommon_13 (by decide) (fun c_2 => ?_) (fun c_2 => ?_)
    · have hf := ite_t hf c_2
      refine lv_lload_n hx hb dX3_greatestCommon_32 rfl (lv_at hl 0 rfl) ?_
      have e90 := Option.some.inj hf
      subst e90
      exact x_lret X Y dX3_greatestCommon_33
    · have hf := ite_f hf c_2
      refine lv_lload_n hx hb dX3_greatestCommon_16 rfl (lv_at hl 0 rfl) ?_
      refine lv_lload_n hx hb dX3_greatestCommon_17 rfl (lv_at hl 1 rfl) ?_
      obtain ⟨hz_3, hf⟩ := ck_some hf
      refine lv_lrem hx hb dX3_greatestCommon_18 (of_decide_eq_true hz_3) ?_
      refine lv_topl (fun x5_4 e_x5_4 => ?_)
      have hf := bnd_eq hf e_x5_4
      refine lv_lstore (lv' := [(5, .long x5_4), (0, .long x0), (2, .long x2), (4, .int x4)]) hx hb dX3_greatestCommon_19 hl (by decide) rfl (fun ls hl => ?_)
      refine lv_lload_n hx hb dX3_greatestCommon_21 rfl (lv_at hl 2 rfl) ?_
      refine lv_lstore_n (lv' := [(0, .long x2), (5, .long x5_4), (2, .long x2), (4, .int x4)]) hx hb dX3_greatestCommon_22 rfl hl (by decide) rfl (fun ls hl => ?_)
      refine lv_lload hx hb dX3_greatestCommon_23 (lv_at hl 1 rfl) ?_
      refine lv_lstore_n (lv' := [(2, .long x5_4), (0, .long x2), (5, .long x5_4), (4, .int x4)]) hx hb dX3_greatestCommon_25 rfl hl (by decide) rfl (fun ls hl => ?_)
      obtain ⟨x4_5, e_x4_5⟩ : ∃ z : Int32, z = (x4 + (1 : Int32)) := ⟨_, rfl⟩
      have hf := bnd_eq hf e_x4_5
      refine lv_iinc (v := x4_5) (lv' := [(4, .int x4_5), (2, .long x5_4), (0, .long x2), (5, .long x5_4)]) hx hb dX3_greatestCommon_26 hl (k := 3) rfl (by rw [e_x4_5]; rfl) (by decide) rfl (fun ls hl => ?_)
      refine lv_goto (tgt := 3) hx hb dX3_greatestCommon_29 (by decide) ?_
      exact h3 _ _ _ hf _ _ _ Y (lv_sub hl [2, 1, 0] rfl)
def F_greatestCommon_L3 : Nat → Int64 → Int64 → Int32 → Option (Int64)
  | 0, _, _, _ => none
  | n + 1, x0, x2, x4 => F_greatestCommon_3 (F_greatestCommon_L3 n) x0 x2 x4
theorem lF_greatestCommon_3 {r0 : Int64} (X : Cx Γ p s m args meth c RX3 cX3_greatestCommon 7 (some .long) w0) : ∀ (n : Nat) (x0 : Int64) (x2 : Int64) (x4 : Int32), F_greatestCommon_L3 n x0 x2 x4 = some r0 → ∀ (H : Heap) (locs : List Loc) (ls : Array Slot), Wd Γ w0 s ([] : va_W) H locs → lv_has ls 7 [(0, .long x0), (2, .long x2), (4, .int x4)] → W p l e rmF_greatestCommon s m args below meth c H locs 0 0 (EL Γ below args s w0 ([] : va_W) r0) (F0 m 3 ls []) := by
  intro n
  induction n with
  | zero => intro x0 x2 x4 hf; cases hf
  | succ n ih => intro x0 x2 x4 hf H locs ls Y hl; exact bF_greatestCommon_3 X ih hf Y hl
def F_greatestCommon (x0 : Int64) (x2 : Int64) : Option (Int64) := F_greatestCommon_L3 FU x0 x2 (0 : Int32)
set_option maxHeartbeats 4000000 in
set_option maxRecDepth 100000 in
theorem bF_greatestCommon_e {r0 : Int64} {x0 : Int64} {x2 : Int64} (X : Cx Γ p s m args meth c RX3 cX3_greatestCommon 7 (some .long) w0) (hf : F_greatestCommon x0 x2 = some r0) (Y : Wd Γ w0 s ([] : va_W) H locs) (hl : lv_has ls 7 [(0, .long x0), (2, .long x2)]) : W p l e rmF_greatestCommon s m args below meth c H locs 0 0 (EL Γ below args s w0 ([] : va_W) r0) (F0 m 0 ls []) := by
  have hx := X.1
  have hb := X.2.1
  refine lv_iconst (v := (0 : Int32)) hx hb dX3_greatestCommon_0 (by decide) ?_
  refine lv_istore (lv' := [(4, .int (0 : Int32)), (0, .long x0), (2, .long x2)]) hx hb dX3_greatestCommon_1 hl (by decide) rfl (fun ls hl => ?_)
  exact lF_greatestCommon_3 X _ _ _ _ hf _ _ _ Y (lv_sub hl [1, 2, 0] rfl)
theorem cF_greatestCommon {l : Launch} {Γ : Gm} {r0 : Int64} {x0 : Int64} {x2 : Int64} (h : F_greatestCommon x0 x2 = some r0) : CL l Γ yX3_greatestCommon (Cond.code yX3_greatestCommon cX3_greatestCommon 7 (some .long) :: GW) rmF_greatestCommon [.long x0, .long x2] ([] : va_W) ([] : va_W) r0 := ofBody (Qc := QcL Γ _ _ r0) (by decide) (Nat.le_of_ble_eq_true rfl) (fun p e s m below meth c ls _ X Y hl => bF_greatestCommon_e X h Y hl)
end
