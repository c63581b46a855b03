section
variable {p : Program} {l : Launch} {e : Env} {R : Room} {s : State} {m : MethodId} {args : Array Value} {below : List Frame} {meth : Method} {c : Code} {H : Heap} {locs : List Loc} {Q : State → Prop} {cells slots : Nat}
variable {Γ : Gm} {own : String} {cc : ByteArray} {nL : Nat} {ret : Option FieldType} {w0 ws ws' : va_W} {pc : Nat} {ls : Array Slot} {rest : List Value} {a : Nat}
def rmJ_bitCount : Room := { frames := 0, cells := 0, slots := 0, locals := 0 }
def J_bitCount (x0 : Int32) : Option (Int32) := bnd (x0 - ((((x0).toUInt32 >>> (((1 : Int32)).toUInt32 &&& Int32.toUInt32 31)).toInt32) &&& (1431655765 : Int32))) (fun (x0_1 : Int32) => bnd ((x0_1 &&& (858993459 : Int32)) + ((((x0_1).toUInt32 >>> (((2 : Int32)).toUInt32 &&& Int32.toUInt32 31)).toInt32) &&& (858993459 : Int32))) (fun (x0_2 : Int32) => bnd ((x0_2 + (((x0_2).toUInt32 >>> (((4 : Int32)).toUInt32 &&& Int32.toUInt32 31)).toInt32)) &&& (252645135 : Int32)) (fun (x0_3 : Int32) => bnd (x0_3 + (((x0_3).toUInt32 >>> (((8 : Int32)).toUInt32 &&& Int32.toUInt32 31)).toInt32)) (fun (x0_4 : Int32) => bnd (x0_4 + (((x0_4).toUInt32 >>> (((16 : Int32)).toUInt32 &&& Int32.toUInt32 31)).toInt32)) (fun (x0_5 : Int32) => some (x0_5 &&& (63 : Int32)))))))
set_option maxHeartbeats 4000000 in
set_option maxRecDepth 100000 in
theorem bJ_bitCount_e {r0 : Int32} {x0 : Int32} (X : Cx Γ p s m args meth c RJ6 cJ6_bitCount_0f7a4 1 (some .int) w0) (hf : J_bitCount x0 = some r0) (Y : Wd Γ w0 s ([] : va_W) H locs) (hl : lv_has ls 1 [(0, .int x0)]) : W p l e rmJ_bitCount s m args below meth c H locs 0 0 (EI Γ below args s w0 ([] : va_W) r0) (F0 m 0 ls []) := by
  have hx := X.1
  have hb := X.2.1
  refine lv_iload_n hx hb dJ6_bitCount_0f7a4_0 rfl (lv_at hl 0 rfl) ?_
  refine lv_iload_n hx hb dJ6_bitCount_0f7a4_1 rfl (lv_at hl 0 rfl) ?_
  refine lv_iconst (v := (1 : Int32)) hx hb dJ6_bitCount_0f7a4_2 (by decide) ?_
  refine lv_iushr (v := ((x0).toUInt32 >>> (((1 : Int32)).toUInt32 &&& Int32.toUInt32 31)).toInt32) hx hb dJ6_bitCount_0f7a4_3 rfl ?_
  refine lv_ldcw (v := (1431655765 : Int32)) hx hb X.2.2.2.1 (X.2.2.2.2.1 _ kw215) dJ6_bitCount_0f7a4_4 ?_
  refine lv_iand hx hb dJ6_bitCount_0f7a4_7 ?_
  refine lv_isub hx hb dJ6_bitCount_0f7a4_8 ?_
  refine lv_topi (fun x0_1 e_x0_1 => ?_)
  have hf := bnd_eq hf e_x0_1
  refine lv_istore_n (lv' := [(0, .int x0_1)]) hx hb dJ6_bitCount_0f7a4_9 rfl hl (by decide) rfl (fun ls hl => ?_)
  refine lv_iload_n hx hb dJ6_bitCount_0f7a4_10 rfl (lv_at hl 0 rfl) ?_
  refine lv_ldcw (v := (858993459 : Int32)) hx hb X.2.2.2.1 (X.2.2.2.2.1 _ kw216) dJ6_bitCount_0f7a4_11 ?_
  refine lv_iand hx hb dJ6_bitCount_0f7a4_14 ?_
  refine lv_iload_n hx hb dJ6_bitCount_0f7a4_15 rfl (lv_at hl 0 rfl) ?_
  refine lv_iconst (v := (2 : Int32)) hx hb dJ6_bitCount_0f7a4_16 (by decide) ?_
  refine lv_iushr (v := ((x0_1).toUInt32 >>> (((2 : Int32)).toUInt32 &&& Int32.toUInt32 31)).toInt32) hx hb dJ6_bitCount_0f7a4_17 rfl ?_
  refine lv_ldcw (v := (858993459 : Int32)) hx hb X.2.2.2.1 (X.2.2.2.2.1 _ kw216) dJ6_bitCount_0f7a4_18 ?_
  refine lv_iand hx hb dJ6_bitCount_0f7a4_21 ?_
  refine lv_iadd hx hb dJ6_bitCount_0f7a4_22 ?_
  refine lv_topi (fun x0_2 e_x0_2 => ?_)
  have hf := bnd_eq hf e_x0_2
  refine lv_istore_n (lv' := [(0, .int x0_2)]) hx hb dJ6_bitCount_0f7a4_23 rfl hl (by decide) rfl (fun ls hl => ?_)
  refine lv_iload_n hx hb dJ6_bitCount_0f7a4_24 rfl (lv_at hl 0 rfl) ?_
  refine lv_iload_n hx hb dJ6_bitCount_0f7a4_25 rfl (lv_at hl 0 rfl) ?_
  refine lv_iconst (v := (4 : Int32)) hx hb dJ6_bitCount_0f7a4_26 (by decide) ?_
  refine lv_iushr (v := ((x0_2).toUInt32 >>> (((4 : Int32)).toUInt32 &&& Int32.toUInt32 31)).toInt32) hx hb dJ6_bitCount_0f7a4_27 rfl ?_
  refine lv_iadd hx hb dJ6_bitCount_0f7a4_28 ?_
  refine lv_ldcw (v := (252645135 : Int32)) hx hb X.2.2.2.1 (X.2.2.2.2.1 _ kw217) dJ6_bitCount_0f7a4_29 ?_
  refine lv_iand hx hb dJ6_bitCount_0f7a4_32 ?_
  refine lv_topi (fun x0_3 e_x0_3 => ?_)
  have hf := bnd_eq hf e_x0_3
  refine lv_istore_n (lv' := [(0, .int x0_3)]) hx hb dJ6_bitCount_0f7a4_33 rfl hl (by decide) rfl (fun ls hl => ?_)
  refine lv_iload_n hx hb dJ6_bitCount_0f7a4_34 rfl (lv_at hl 0 rfl) ?_
  refine lv_iload_n hx hb dJ6_bitCount_0f7a4_35 rfl (lv_at hl 0 rfl) ?_
  refine lv_bipush (v := (8 : Int32)) hx hb dJ6_bitCount_0f7a4_36 (by decide) ?_
  refine lv_iushr (v := ((x0_3).toUInt32 >>> (((8 : Int32)).toUInt32 &&& Int32.toUInt32 31)).toInt32) hx hb dJ6_bitCount_0f7a4_38 rfl ?_
  refine lv_iadd hx hb dJ6_bitCount_0f7a4_39 ?_
  refine lv_topi (fun x0_4 e_x0_4 => ?_)
  have hf := bnd_eq hf e_x0_4
  refine lv_istore_n (lv' := [(0, .int x0_4)]) hx hb dJ6_bitCount_0f7a4_40 rfl hl (by decide) rfl (fun ls hl => ?_)
  refine lv_iload_n hx hb dJ6_bitCount_0f7a4_41 rfl (lv_at hl 0 rfl) ?_
  refine lv_iload_n hx hb dJ6_bitCount_0f7a4_42 rfl (lv_at hl 0 rfl) ?_
  refine lv_bipush (v := (16 : Int32)) hx hb dJ6_bitCount_0f7a4_43 (by decide) ?_
  refine lv_iushr (v := ((x0_4).toUInt32 >>> (((16 : Int32)).toUInt32 &&& Int32.toUInt32 31)).toInt32) hx hb dJ6_bitCount_0f7a4_45 rfl ?_
  refine lv_iadd hx hb dJ6_bitCount_0f7a4_46 ?_
  refine lv_topi (fun x0_5 e_x0_5 => ?_)
  have hf := bnd_eq hf e_x0_5
  refine lv_istore_n (lv' := [(0, .int x0_5)]) hx hb dJ6_bitCount_0f7a4_47 rfl hl (by decide) rfl (fun ls hl => ?_)
  refine lv_iload_n hx hb dJ6_bitCount_0f7a4_48 rfl (lv_at hl 0 rfl) ?_
  refine lv_bipush (v := (63 : Int32)) hx hb dJ6_bitCount_0f7a4_49 (by decide) ?_
  refine lv_iand hx hb dJ6_bitCount_0f7a4_51 ?_
  have e90 := Option.some.inj hf
  subst e90
  exact x_iret X Y dJ6_bitCount_0f7a4_52
theorem cJ_bitCount {l : Launch} {Γ : Gm} {r0 : Int32} {x0 : Int32} (h : J_bitCount x0 = some r0) : CI l Γ yJ6_bitCount_0f7a4 (Cond.code yJ6_bitCount_0f7a4 cJ6_bitCount_0f7a4 1 (some .int) :: GW) rmJ_bitCount [.int x0] ([] : va_W) ([] : va_W) r0 := ofBody (Qc := QcI Γ _ _ r0) (by decide) (Nat.le_of_ble_eq_true rfl) (fun p e s m below meth c ls _ X Y hl => bJ_bitCount_e X h Y hl)
def rmX_within : Room := { frames := 0, cells := 0, slots := 0, locals := 0 }
def X_within (x0 : Int32) (x1 : Int32) (x2 : Int32) : Option (Int32) := if x0 < x1 then (some (0 : Int32)) else (if x2 < x0 then (some (0 : Int32)) else (some (1 : Int32)))
set_option maxHeartbeats 4000000 in
set_option maxRecDepth 100000 in
theorem bX_within_e {r0 : Int32} {x0 : Int32} {x1 : Int32} {x2 : Int32} (X : Cx Γ p s m args meth c RX11 cX11_within 3 (some .boolean) w0) (hf : X_within x0 x1 x2 = some r0) (Y : Wd Γ w0 s ([] : va_W) H locs) (hl : lv_has ls 3 [(0, .int x0), (1, .int x1), (2, .int x2)]) : W p l e rmX_within s m args below meth c H locs 0 0 (EI Γ below args s w0 ([] : va_W) r0) (F0 m 0 ls []) := by
  have hx := X.1
  have hb := X.2.1
  refine lv_iload_n hx hb dX11_within_0 rfl (lv_at hl 0 rfl) ?_
  refine lv_iload_n hx hb dX11_within_1 rfl (lv_at hl 1 rfl) ?_
  refine lv_icmp_lt (tgt := 14) hx hb dX11_within_2 (by decide) (fun c_1 => ?_) (fun c_1 => ?_)
  · have hf := ite_t hf c_1
    refine lv_iconst (v := (0 : Int32)) hx hb dX11_within_14 (by decide) ?_
    have e90 := Option.some.inj hf
    subst e90
    exact x_zret X Y rfl dX11_within_15
  · have hf := ite_f hf c_1
    refine lv_iload_n hx hb dX11_within_5 rfl (lv_at hl 0 rfl) ?_
    refine lv_iload_n hx hb dX11_within_6 rfl (lv_at hl 2 rfl) ?_
    refine lv_icmp_gt (tgt := 14) hx hb dX11_within_7 (by decide) (fun c_2 => ?_) (fun c_2 => ?_)
    · have hf := ite_t hf c_2
      refine lv_iconst (v := (0 : Int32)) hx hb dX11_within_14 (by decide) ?_
      have e90 := Option.some.inj hf
      subst e90
      exact x_zret X Y rfl dX11_within_15
    · have hf := ite_f hf c_2
      refine lv_iconst (v := (1 : Int32)) hx hb dX11_within_10 (by decide) ?_
      refine lv_goto (tgt := 15) hx hb dX11_within_11 (by decide) ?_
      have e90 := Option.some.inj hf
      subst e90
      exact x_zret X Y rfl dX11_within_15
theorem cX_within {l : Launch} {Γ : Gm} {r0 : Int32} {x0 : Int32} {x1 : Int32} {x2 : Int32} (h : X_within x0 x1 x2 = some r0) : CI l Γ yX11_within (Cond.code yX11_within cX11_within 3 (some .boolean) :: GW) rmX_within [.int x0, .int x1, .int x2] ([] : va_W) ([] : va_W) r0 := ofBody (Qc := QcI Γ _ _ r0) (by decide) (Nat.le_of_ble_eq_true rfl) (fun p e s m below meth c ls _ X Y hl => bX_within_e X h Y hl)
def rmX_isIn : Room := { frames := 0, cells := 0, slots := 0, locals := 0 }
def X_isIn (x0 : Int32) (x1 : Int32) : Option (Int32) := if ((x0 >>> (x1 &&& 31)) &&& (1 : Int32)) = (1 : Int32) then (some (1 : Int32)) else (some (0 : Int32))
set_option maxHeartbeats 4000000 in
set_option maxRecDepth 100000 in
theorem bX_isIn_e {r0 : Int32} {x0 : Int32} {x1 : Int32} (X : Cx Γ p s m args meth c RX11 cX11_isIn 2 (some .boolean) w0) (hf : X_isIn x0 x1 = some r0) (Y : Wd Γ w0 s ([] : va_W) H locs) (hl : lv_has ls 2 [(0, .int x0), (1, .int x1)]) : W p l e rmX_isIn s m args below meth c H locs 0 0 (EI Γ below args s w0 ([] : va_W) r0) (F0 m 0 ls []) := by
  have hx := X.1
  have hb := X.2.1
  refine lv_iload_n hx hb dX11_isIn_0 rfl (lv_at hl 0 rfl) ?_
  refine lv_iload_n hx hb dX11_isIn_1 rfl (lv_at hl 1 rfl) ?_
  refine lv_ishr hx hb dX11_isIn_2 ?_
  refine lv_iconst (v := (1 : Int32)) hx hb dX11_isIn_3 (by decide) ?_
  refine lv_iand hx hb dX11_isIn_4 ?_
  refine lv_iconst (v := (1 : Int32)) hx hb dX11_isIn_5 (by decide) ?_
  refine lv_icmp_ne (tgt := 13) hx hb dX11_isIn_6 (by decide) (fun c_1 => ?_) (fun c_1 => ?_)
  · have hf := ite_f hf c_1
    refine lv_iconst (v := (0 : Int32)) hx hb dX11_isIn_13 (by decide) ?_
    have e90 := Option.some.inj hf
    subst e90
    exact x_zret X Y rfl dX11_isIn_14
  · have hf := ite_t hf c_1
    refine lv_iconst (v := (1 : Int32)) hx hb dX11_isIn_9 (by decide) ?_
    refine lv_goto (tgt := 14) hx hb dX11_isIn_10 (by decide) ?_
    have e90 := Option.some.inj hf
    subst e90
    exact x_zret X Y rfl dX11_isIn_14
theorem cX_isIn {l : Launch} {Γ : Gm} {r0 : Int32} {x0 : Int32} {x1 : Int32} (h : X_isIn x0 x1 = some r0) : CI l Γ yX11_isIn (Cond.code yX11_isIn cX11_isIn 2 (some .boolean) :: GW) rmX_isIn [.int x0, .int x1] ([] : va_W) ([] : va_W) r0 := ofBody (Qc := QcI Γ _ _ r0) (by decide) (Nat.le_of_ble_eq_true rfl) (fun p e s m below meth c ls _ X Y hl => bX_isIn_e X h Y hl)
theorem dmX11_withinS : yX11_within.cls ≠ "java/lang/invoke/MethodHandle" ∧ yX11_within.cls ≠ "java/lang/invoke/VarHandle" ∧ (parseMethodDescriptor yX11_within.desc).map (fun d => d.parameters.length) = some 3 := by decide +kernel
theorem cwX11_97 (X : Cx Γ p s m args meth c RX11 cc nL ret w0) (hR : rmX_within.frames + 1 ≤ R.frames ∧ 8 + (3 + 11) + rmX_within.locals ≤ R.locals) : CallB R s args RX11 97 yX11_within cX11_within 3 (some .boolean) (Cond.code yX11_within cX11_within 3 (some .boolean) :: GW) rmX_within 0 0 3 ∧ (Cond.static yX11_within).before args s = true := cw_S X kw218 kw219 kw220 kw221 dmX11_withinS rfl rfl hR
def rmX_isStorm : Room := { frames := 1, cells := 0, slots := 0, locals := 22 }
def X_isStorm (x0 : Int32) : Option (Int32) := bd1 (X_within x0 (0 : Int32) (200 : Int32)) (fun (r_1 : Int32) => ck (bo r_1) (some r_1))
set_option maxHeartbeats 4000000 in
set_option maxRecDepth 100000 in
theorem bX_isStorm_e {r0 : Int32} {x0 : Int32} (X : Cx Γ p s m args meth c RX11 cX11_isStorm 1 (some .boolean) w0) (hf : X_isStorm x0 = some r0) (Y : Wd Γ w0 s ([] : va_W) H locs) (hl : lv_has ls 1 [(0, .int x0)]) : W p l e rmX_isStorm s m args below meth c H locs 0 0 (EI Γ below args s w0 ([] : va_W) r0) (F0 m 0 ls []) := by
  have hx := X.1
  have hb := X.2.1
  refine lv_iload_n hx hb dX11_isStorm_0 rfl (lv_at hl 0 rfl) ?_
  refine lv_iconst (v := (0 : Int32)) hx hb dX11_isStorm_1 (by decide) ?_
  refine lv_sipush (v := (200 : Int32)) hx hb dX11_isStorm_2 (by decide) ?_
  obtain ⟨r_1, ho_3, hf⟩ := bd1_some hf
  refine t_i Y (bk0 Y) (r_S (As := [.int x0, .int (0 : Int32), .int (200 : Int32)]) (rest := []) X (c_pre0 X Y) (cX_within ho_3) (cwX11_97 X (by decide)) rfl hl.1 (Nat.le_of_ble_eq_true rfl) rfl dX11_isStorm_5 ⟨Nat.zero_le _, Nat.zero_le _⟩) (fun H locs Y => ?_)
  obtain ⟨hz_2, hf⟩ := ck_some hf
  have e90 := Option.some.inj hf
  subst e90
  exact x_zret X Y (bo_nar hz_2) dX11_isStorm_8
theorem cX_isStorm {l : Launch} {Γ : Gm} {r0 : Int32} {x0 : Int32} (h : X_isStorm x0 = some r0) : CI l Γ yX11_isStorm (Cond.code yX11_isStorm cX11_isStorm 1 (some .boolean) :: GW) rmX_isStorm [.int x0] ([] : va_W) ([] : va_W) r0 := ofBody (Qc := QcI Γ _ _ r0) (by decide) (Nat.le_of_ble_eq_true rfl) (fun p e s m below meth c ls _ X Y hl => bX_isStorm_e X h Y hl)
theorem gfX1_28 (X : Cx Γ p s m args meth c RX1 cc nL ret w0) (Y : Wd Γ w0 s ws H locs) {v : Value} (q0 : Nat) {fs : List Value} (he : ws[q0]? = some (a, .inr (1, fs))) (hv : fs[2]? = some v) (hdg : decode cc pc = .ok (.getfield 28, 3)) (kk : W p l e R s m args below meth c H locs cells slots Q (F0 m (pc + 3) ls (v :: rest))) : W p l e R s m args below meth c H locs cells slots Q (F0 m pc ls (.ref a :: rest)) := x_get X Y iX1 rfl 2 (by decide) rfl kw222 q0 he hv hdg kk
def rmC_has : Room := { frames := 0, cells := 0, slots := 0, locals := 0 }
def C_has (x1 : Int32) (csi : Int32) : Option (Int32) := if x1 < 0 then (some (0 : Int32)) else (if csi ≤ x1 then (some (0 : Int32)) else (some (1 : Int32)))
set_option maxHeartbeats 4000000 in
set_option maxRecDepth 100000 in
theorem bC_has_e {Ac : Nat → Nat} {csw : Int32} {cca : Int32} {csi : Int32} {cab : Int32} {cun : Int32} {csg : Int32} {cfa : Nat → Int32} {che : Nat → Int32} {cst : Nat → Int32} {r0 : Int32} {x1 : Int32} (X : Cx Γ p s m args meth c RX1 cX1_has 2 (some .boolean) w0) (hf : C_has x1 csi = some r0) (Y : Wd Γ w0 s (WC Γ Ac csw cca csi cab cun csg cfa che cst) H locs) (hl : lv_has ls 2 [(0, .ref (Ac 0)), (1, .int x1)]) : W p l e rmC_has s m args below meth c H locs 0 0 (EI Γ below args s w0 (WC Γ Ac csw cca csi cab cun csg cfa che cst) r0) (F0 m 0 ls []) := by
  have hx := X.1
  have hb := X.2.1
  refine lv_iload_n hx hb dX1_has_0 rfl (lv_at hl 1 rfl) ?_
  refine lv_if_lt (tgt := 16) hx hb dX1_has_1 (by decide) (fun c_1 => ?_) (fun c_1 => ?_)
  · have hf := ite_t hf c_1
    refine lv_iconst (v := (0 : Int32)) hx hb dX1_has_16 (by decide) ?_
    have e90 := Option.some.inj hf
    subst e90
    exact x_zret X Y rfl dX1_has_17
  · have hf := ite_f hf c_1
    refine lv_iload_n hx hb dX1_has_4 rfl (lv_at hl 1 rfl) ?_
    refine lv_aload_n hx hb dX1_has_5 rfl (lv_at hl 0 rfl) ?_
    refine gfX1_28 X Y (v := .int csi) 0 rfl rfl dX1_has_6 ?_
    refine lv_icmp_ge (tgt := 16) hx hb dX1_has_9 (by decide) (fun c_2 => ?_) (fun c_2 => ?_)
    · have hf := ite_t hf c_2
      refine lv_iconst (v := (0 : Int32)) hx hb dX1_has_16 (by decide) ?_
      have e90 := Option.some.inj hf
      subst e90
      exact x_zret X Y rfl dX1_has_17
    · have hf := ite_f hf c_2
      refine lv_iconst (v := (1 : Int32)) hx hb dX1_has_12 (by decide) ?_
      refine lv_goto (tgt := 17) hx hb dX1_has_13 (by decide) ?_
      have e90 := Option.some.inj hf
      subst e90
      exact x_zret X Y rfl dX1_has_17
theorem cC_has {l : Launch} {Γ : Gm} {Ac : Nat → Nat} {csw : Int32} {cca : Int32} {csi : Int32} {cab : Int32} {cun : Int32} {csg : Int32} {cfa : Nat → Int32} {che : Nat → Int32} {cst : Nat → Int32} {r0 : Int32} {x1 : Int32} (h : C_has x1 csi = some r0) : CI l Γ yX1_has (Cond.code yX1_has cX1_has 2 (some .boolean) :: GW) rmC_has [.ref (Ac 0), .int x1] (WC Γ Ac csw cca csi cab cun csg cfa che cst) (WC Γ Ac csw cca csi cab cun csg cfa che cst) r0 := ofBody (Qc := QcI Γ _ _ r0) (by decide) (Nat.le_of_ble_eq_true rfl) (fun p e s m below meth c ls _ X Y hl => bC_has_e X h Y hl)
theorem gfX1_18 (X : Cx Γ p s m args meth c RX1 cc nL ret w0) (Y : Wd Γ w0 s ws H locs) {v : Value} (q0 : Nat) {fs : List Value} (he : ws[q0]? = some (a, .inr (1, fs))) (hv : fs[6]? = some v) (hdg : decode cc pc = .ok (.getfield 18, 3)) (kk : W p l e R s m args below meth c H locs cells slots Q (F0 m (pc + 3) ls (v :: rest))) : W p l e R s m args below meth c H locs cells slots Q (F0 m pc ls (.ref a :: rest)) := x_get X Y iX1 rfl 6 (by decide) rfl kw223 q0 he hv hdg kk
theorem cwX1_50 (X : Cx Γ p s m args meth c RX1 cc nL ret w0) (hR : rmX_within.frames + 1 ≤ R.frames ∧ 8 + (3 + 11) + rmX_within.locals ≤ R.locals) : va_CN R s args RX1 50 yX11_within "ThrownOver" cX11_within 3 (some .boolean) (Cond.code yX11_within cX11_within 3 (some .boolean) :: GW) rmX_within 0 0 3 ∧ (Cond.static yX11_within).before args s = true ∧ True := cw_SN X kw224 kw219 kw220 kw221 dmX11_withinS rfl rfl hR
theorem dmX1_hasV : yX1_has.cls = RX1 ∧ yX1_has.cls ≠ "java/lang/invoke/MethodHandle" ∧ yX1_has.cls ≠ "java/lang/invoke/VarHandle" ∧ (parseMethodDescriptor yX1_has.desc).map (fun d => d.parameters.length) = some 1 := by decide +kernel
theorem cwX1_46 (X : Cx Γ p s m args meth c RX1 cc nL ret w0) (hR : rmC_has.frames + 1 ≤ R.frames ∧ 8 + (2 + 11) + rmC_has.locals ≤ R.locals) : CallW R s args RX1 RX1 46 yX1_has cX1_has 2 (some .boolean) (Cond.code yX1_has cX1_has 2 (some .boolean) :: GW) rmC_has 0 0 1 := cw_V X kw225 kw226 kw227 kw228 kw229 dmX1_hasV rfl rfl hR
def rmC_fact : Room := { frames := 1, cells := 0, slots := 0, locals := 22 }
def C_fact (x1 : Int32) (x2 : Int32) (csi : Int32) (cfa : Nat → Int32) : Option (Int32) := bd1 (C_has x1 csi) (fun (r_1 : Int32) => if r_1 = 0 then (some (-1 : Int32)) else (bd1 (X_within x2 (0 : Int32) (5 : Int32)) (fun (r_3 : Int32) => if r_3 = 0 then (some (-1 : Int32)) else (ck (inb ((x1 * (6 : Int32)) + x2) 48) (some (cfa ((x1 * (6 : Int32)) + x2).toNatClampNeg))))))
set_option maxHeartbeats 4000000 in
set_option maxRecDepth 100000 in
theorem bC_fact_e {Ac : Nat → Nat} {csw : Int32} {cca : Int32} {csi : Int32} {cab : Int32} {cun : Int32} {csg : Int32} {cfa : Nat → Int32} {che : Nat → Int32} {cst : Nat → Int32} {r0 : Int32} {x1 : Int32} {x2 : Int32} (X : Cx Γ p s m args meth c RX1 cX1_fact 3 (some .int) w0) (hf : C_fact x1 x2 csi cfa = some r0) (Y : Wd Γ w0 s (WC Γ Ac csw cca csi cab cun csg cfa che cst) H locs) (hl : lv_has ls 3 [(0, .ref (Ac 0)), (1, .int x1), (2, .int x2)]) : W p l e rmC_fact s m args below meth c H locs 0 0 (EI Γ below args s w0 (WC Γ Ac csw cca csi cab cun csg cfa che cst) r0) (F0 m 0 ls []) := by
  have hx := X.1
  have hb := X.2.1
  refine lv_aload_n hx hb dX1_fact_0 rfl (lv_at hl 0 rfl) ?_
  refine lv_iload_n hx hb dX1_fact_1 rfl (lv_at hl 1 rfl) ?_
  obtain ⟨r_1, ho_7, hf⟩ := bd1_some hf
  refine t_i Y (bkS Y) (r_V (As := [.int x1]) (rest := []) X (c_preS X Y) (cC_has ho_7) (cwX1_46 X (by decide)) (va_recv X.K Y.1 (q := (RX1, TX1, 9)) (q0 := 0) (ci := 1) rfl rfl) rfl hl.1 (Nat.le_of_ble_eq_true rfl) rfl dX1_fact_2 ⟨Nat.zero_le _, Nat.zero_le _⟩) (fun H locs Y => ?_)
  refine lv_if_eq (tgt := 31) hx hb dX1_fact_5 (by decide) (fun c_2 => ?_) (fun c_2 => ?_)
  · have hf := ite_t hf c_2
    refine lv_iconst (v := (-1 : Int32)) hx hb dX1_fact_31 (by decide) ?_
    have e90 := Option.some.inj hf
    subst e90
    exact x_iret X Y dX1_fact_32
  · have hf := ite_f hf c_2
    refine lv_iload_n hx hb dX1_fact_8 rfl (lv_at hl 2 rfl) ?_
    refine lv_iconst (v := (0 : Int32)) hx hb dX1_fact_9 (by decide) ?_
    refine lv_iconst (v := (5 : Int32)) hx hb dX1_fact_10 (by decide) ?_
    obtain ⟨r_3, ho_6, hf⟩ := bd1_some hf
    refine t_i Y (bk0 Y) (r_SN (As := [.int x2, .int (0 : Int32), .int (5 : Int32)]) (rest := []) X (c_pre0 X Y) (cX_within ho_6) (cwX1_50 X (by decide)) rfl hl.1 (Nat.le_of_ble_eq_true rfl) rfl dX1_fact_11 ⟨Nat.zero_le _, Nat.zero_le _⟩) (fun H locs Y => ?_)
    refine lv_if_eq (tgt := 31) hx hb dX1_fact_14 (by decide) (fun c_4 => ?_) (fun c_4 => ?_)
    · have hf := ite_t hf c_4
      refine lv_iconst (v := (-1 : Int32)) hx hb dX1_fact_31 (by decide) ?_
      have e90 := Option.some.inj hf
      subst e90
      exact x_iret X Y dX1_fact_32
    · have hf := ite_f hf c_4
      refine lv_aload_n hx hb dX1_fact_17 rfl (lv_at hl 0 rfl) ?_
      refine gfX1_18 X Y (v := .ref (Ac 1)) 0 rfl rfl dX1_fact_18 ?_
      refine lv_iload_n hx hb dX1_fact_21 rfl (lv_at hl 1 rfl) ?_
      refine lv_bipush (v := (6 : Int32)) hx hb dX1_fact_22 (by decide) ?_
      refine lv_imul hx hb dX1_fact_24 ?_
      refine lv_iload_n hx hb dX1_fact_25 rfl (lv_at hl 2 rfl) ?_
      refine lv_iadd hx hb dX1_fact_26 ?_
      obtain ⟨hi_5, hf⟩ := ck_some hf
      refine x_iald X Y 1 rfl rfl hi_5 dX1_fact_27 ?_
      refine lv_goto (tgt := 32) hx hb dX1_fact_28 (by decide) ?_
      have e90 := Option.some.inj hf
      subst e90
      exact x_iret X Y dX1_fact_32
theorem cC_fact {l : Launch} {Γ : Gm} {Ac : Nat → Nat} {csw : Int32} {cca : Int32} {csi : Int32} {cab : Int32} {cun : Int32} {csg : Int32} {cfa : Nat → Int32} {che : Nat → Int32} {cst : Nat → Int32} {r0 : Int32} {x1 : Int32} {x2 : Int32} (h : C_fact x1 x2 csi cfa = some r0) : CI l Γ yX1_fact (Cond.code yX1_fact cX1_fact 3 (some .int) :: GW) rmC_fact [.ref (Ac 0), .int x1, .int x2] (WC Γ Ac csw cca csi cab cun csg cfa che cst) (WC Γ Ac csw cca csi cab cun csg cfa che cst) r0 := ofBody (Qc := QcI Γ _ _ r0) (by decide) (Nat.le_of_ble_eq_true rfl) (fun p e s m below meth c ls _ X Y hl => bC_fact_e X h Y hl)
theorem gfX1_37 (X : Cx Γ p s m args meth c RX1 cc nL ret w0) (Y : Wd Γ w0 s ws H locs) {v : Value} (q0 : Nat) {fs : List Value} (he : ws[q0]? = some (a, .inr (1, fs))) (hv : fs[5]? = some v) (hdg : decode cc pc = .ok (.getfield 37, 3)) (kk : W p l e R s m args below meth c H locs cells slots Q (F0 m (pc + 3) ls (v :: rest))) : W p l e R s m args below meth c H locs cells slots Q (F0 m pc ls (.ref a :: rest)) := x_get X Y iX1 rfl 5 (by decide) rfl kw230 q0 he hv hdg kk
theorem gfX1_25 (X : Cx Γ p s m args meth c RX1 cc nL ret w0) (Y : Wd Γ w0 s ws H locs) {v : Value} (q0 : Nat) {fs : List Value} (he : ws[q0]? = some (a, .inr (1, fs))) (hv : fs[8]? = some v) (hdg : decode cc pc = .ok (.getfield 25, 3)) (kk : W p l e R s m args below meth c H locs cells slots Q (F0 m (pc + 3) ls (v :: rest))) : W p l e R s m args below meth c H locs cells slots Q (F0 m pc ls (.ref a :: rest)) := x_get X Y iX1 rfl 8 (by decide) rfl kw231 q0 he hv hdg kk
def rmC_sighted : Room := { frames := 1, cells := 0, slots := 0, locals := 22 }
def C_sighted (x1 : Int32) (x2 : Int32) (csg : Int32) (cst : Nat → Int32) : Option (Int32) := bd1 (X_within x1 (0 : Int32) (csg - (1 : Int32))) (fun (r_1 : Int32) => if r_1 = 0 then (some (-1 : Int32)) else (bd1 (X_within x2 (0 : Int32) (2 : Int32)) (fun (r_3 : Int32) => if r_3 = 0 then (some (-1 : Int32)) else (ck (inb ((x1 * (3 : Int32)) + x2) 18) (some (cst ((x1 * (3 : Int32)) + x2).toNatClampNeg))))))
set_option maxHeartbeats 4000000 in
set_option maxRecDepth 100000 in
theorem bC_sighted_e {Ac : Nat → Nat} {csw : Int32} {cca : Int32} {csi : Int32} {cab : Int32} {cun : Int32} {csg : Int32} {cfa : Nat → Int32} {che : Nat → Int32} {cst : Nat → Int32} {r0 : Int32} {x1 : Int32} {x2 : Int32} (X : Cx Γ p s m args meth c RX1 cX1_sighted 3 (some .int) w0) (hf : C_sighted x1 x2 csg cst = some r0) (Y : Wd Γ w0 s (WC Γ Ac csw cca csi cab cun csg cfa che cst) H locs) (hl : lv_has ls 3 [(0, .ref (Ac 0)), (1, .int x1), (2, .int x2)]) : W p l e rmC_sighted s m args below meth c H locs 0 0 (EI Γ below args s w0 (WC Γ Ac csw cca csi cab cun csg cfa che cst) r0) (F0 m 0 ls []) := by
  have hx := X.1
  have hb := X.2.1
  refine lv_iload_n hx hb dX1_sighted_0 rfl (lv_at hl 1 rfl) ?_
  refine lv_iconst (v := (0 : Int32)) hx hb dX1_sighted_1 (by decide) ?_
  refine lv_aload_n hx hb dX1_sighted_2 rfl (lv_at hl 0 rfl) ?_
  refine gfX1_37 X Y (v := .int csg) 0 rfl rfl dX1_sighted_3 ?_
  refine lv_iconst (v := (1 : Int32)) hx hb dX1_sighted_6 (by decide) ?_
  refine lv_isub hx hb dX1_sighted_7 ?_
  obtain ⟨r_1, ho_7, hf⟩ := bd1_some hf
  refine t_i Y (bk0 Y) (r_SN (As := [.int x1, .int (0 : Int32), .int (csg - (1 : Int32))]) (rest := []) X (c_pre0 X Y) (cX_within ho_7) (cwX1_50 X (by decide)) rfl hl.1 (Nat.le_of_ble_eq_true rfl) rfl dX1_sighted_8 ⟨Nat.zero_le _, Nat.zero_le _⟩) (fun H locs Y => ?_)
  refine lv_if_eq (tgt := 36) hx hb dX1_sighted_11 (by decide) (fun c_2 => ?_) (fun c_2 => ?_)
  · have hf := ite_t hf c_2
    refine lv_iconst (v := (-1 : Int32)) hx hb dX1_sighted_36 (by decide) ?_
    have e90 := Option.some.inj hf
    subst e90
    exact x_iret X Y dX1_sighted_37
  · have hf := ite_f hf c_2
    refine lv_iload_n hx hb dX1_sighted_14 rfl (lv_at hl 2 rfl) ?_
    refine lv_iconst (v := (0 : Int32)) hx hb dX1_sighted_15 (by decide) ?_
    refine lv_iconst (v := (2 : Int32)) hx hb dX1_sighted_16 (by decide) ?_
    obtain ⟨r_3, ho_6, hf⟩ := bd1_some hf
    refine t_i Y (bk0 Y) (r_SN (As := [.int x2, .int (0 : Int32), .int (2 : Int32)]) (rest := []) X (c_pre0 X Y) (cX_within ho_6) (cwX1_50 X (by decide)) rfl hl.1 (Nat.le_of_ble_eq_true rfl) rfl dX1_sighted_17 ⟨Nat.zero_le _, Nat.zero_le _⟩) (fun H locs Y => ?_)
    refine lv_if_eq (tgt := 36) hx hb dX1_sighted_20 (by decide) (fun c_4 => ?_) (fun c_4 => ?_)
    · have hf := ite_t hf c_4
      refine lv_iconst (v := (-1 : Int32)) hx hb dX1_sighted_36 (by decide) ?_
      have e90 := Option.some.inj hf
      subst e90
      exact x_iret X Y dX1_sighted_37
    · have hf := ite_f hf c_4
      refine lv_aload_n hx hb dX1_sighted_23 rfl (lv_at hl 0 rfl) ?_
      refine gfX1_25 X Y (v := .ref (Ac 3)) 0 rfl rfl dX1_sighted_24 ?_
      refine lv_iload_n hx hb dX1_sighted_27 rfl (lv_at hl 1 rfl) ?_
      refine lv_iconst (v := (3 : Int32)) hx hb dX1_sighted_28 (by decide) ?_
      refine lv_imul hx hb dX1_sighted_29 ?_
      refine lv_iload_n hx hb dX1_sighted_30 rfl (lv_at hl 2 rfl) ?_
      refine lv_iadd hx hb dX1_sighted_31 ?_
      obtain ⟨hi_5, hf⟩ := ck_some hf
      refine x_iald X Y 3 rfl rfl hi_5 dX1_sighted_32 ?_
      refine lv_goto (tgt := 37) hx hb dX1_sighted_33 (by decide) ?_
      have e90 := Option.some.inj hf
      subst e90
      exact x_iret X Y dX1_sighted_37
theorem cC_sighted {l : Launch} {Γ : Gm} {Ac : Nat → Nat} {csw : Int32} {cca : Int32} {csi : Int32} {cab : Int32} {cun : Int32} {csg : Int32} {cfa : Nat → Int32} {che : Nat → Int32} {cst : Nat → Int32} {r0 : Int32} {x1 : Int32} {x2 : Int32} (h : C_sighted x1 x2 csg cst = some r0) : CI l Γ yX1_sighted (Cond.code yX1_sighted cX1_sighted 3 (some .int) :: GW) rmC_sighted [.ref (Ac 0), .int x1, .int x2] (WC Γ Ac csw cca csi cab cun csg cfa che cst) (WC Γ Ac csw cca csi cab cun csg cfa che cst) r0 := ofBody (Qc := QcI Γ _ _ r0) (by decide) (Nat.le_of_ble_eq_true rfl) (fun p e s m below meth c ls _ X Y hl => bC_sighted_e X h Y hl)
theorem pfX1_9 (X : Cx Γ p s m args meth c RX1 cc nL ret w0) (Y : Wd Γ w0 s ws H locs) (q0 : Nat) {fs : List Value} (he : ws[q0]? = some (a, .inr (1, fs))) {v : Value} (hn : narrow (tyX1 0) v = v) (hfit : fits (tyX1 0) v = true) (hl : 0 < fs.length) (hw : ws.set q0 (a, .inr (1, fs.set 0 v)) = ws') (hdg : decode cc pc = .ok (.putfield 9, 3)) (kk : ∀ (H1 : Heap) (locs1 : List Loc), Wd Γ w0 s ws' H1 locs1 → W p l e R s m args below meth c H1 locs1 cells slots Q (F0 m (pc + 3) ls rest)) : W p l e R s m args below meth c H locs cells slots Q (F0 m pc ls (v :: .ref a :: rest)) := x_put X Y iX1 tyX1 tyX1_ok nmX1 rfl 0 (by decide) rfl kw232 rfl q0 he hn hfit hl hw hdg kk
theorem pfX1_15 (X : Cx Γ p s m args meth c RX1 cc nL ret w0) (Y : Wd Γ w0 s ws H locs) (q0 : Nat) {fs : List Value} (he : ws[q0]? = some (a, .inr (1, fs))) {v : Value} (hn : narrow (tyX1 1) v = v) (hfit : fits (tyX1 1) v = true) (hl : 1 < fs.length) (hw : ws.set q0 (a, .inr (1, fs.set 1 v)) = ws') (hdg : decode cc pc = .ok (.putfield 15, 3)) (kk : ∀ (H1 : Heap) (locs1 : List Loc), Wd Γ w0 s ws' H1 locs1 → W p l e R s m args below meth c H1 locs1 cells slots Q (F0 m (pc + 3) ls rest)) : W p l e R s m args below meth c H locs cells slots Q (F0 m pc ls (v :: .ref a :: rest)) := x_put X Y iX1 tyX1 tyX1_ok nmX1 rfl 1 (by decide) rfl kw233 rfl q0 he hn hfit hl hw hdg kk
theorem pfX1_28 (X : Cx Γ p s m args meth c RX1 cc nL ret w0) (Y : Wd Γ w0 s ws H locs) (q0 : Nat) {fs : List Value} (he : ws[q0]? = some (a, .inr (1, fs))) {v : Value} (hn : narrow (tyX1 2) v = v) (hfit : fits (tyX1 2) v = true) (hl : 2 < fs.length) (hw : ws.set q0 (a, .inr (1, fs.set 2 v)) = ws') (hdg : decode cc pc = .ok (.putfield 28, 3)) (kk : ∀ (H1 : Heap) (locs1 : List Loc), Wd Γ w0 s ws' H1 locs1 → W p l e R s m args below meth c H1 locs1 cells slots Q (F0 m (pc + 3) ls rest)) : W p l e R s m args below meth c H locs cells slots Q (F0 m pc ls (v :: .ref a :: rest)) := x_put X Y iX1 tyX1 tyX1_ok nmX1 rfl 2 (by decide) rfl kw222 rfl q0 he hn hfit hl hw hdg kk
theorem pfX1_31 (X : Cx Γ p s m args meth c RX1 cc nL ret w0) (Y : Wd Γ w0 s ws H locs) (q0 : Nat) {fs : List Value} (he : ws[q0]? = some (a, .inr (1, fs))) {v : Value} (hn : narrow (tyX1 3) v = v) (hfit : fits (tyX1 3) v = true) (hl : 3 < fs.length) (hw : ws.set q0 (a, .inr (1, fs.set 3 v)) = ws') (hdg : decode cc pc = .ok (.putfield 31, 3)) (kk : ∀ (H1 : Heap) (locs1 : List Loc), Wd Γ w0 s ws' H1 locs1 → W p l e R s m args below meth c H1 locs1 cells slots Q (F0 m (pc + 3) ls rest)) : W p l e R s m args below meth c H locs cells slots Q (F0 m pc ls (v :: .ref a :: rest)) := x_put X Y iX1 tyX1 tyX1_ok nmX1 rfl 3 (by decide) rfl kw234 rfl q0 he hn hfit hl hw hdg kk
theorem pfX1_34 (X : Cx Γ p s m args meth c RX1 cc nL ret w0) (Y : Wd Γ w0 s ws H locs) (q0 : Nat) {fs : List Value} (he : ws[q0]? = some (a, .inr (1, fs))) {v : Value} (hn : narrow (tyX1 4) v = v) (hfit : fits (tyX1 4) v = true) (hl : 4 < fs.length) (hw : ws.set q0 (a, .inr (1, fs.set 4 v)) = ws') (hdg : decode cc pc = .ok (.putfield 34, 3)) (kk : ∀ (H1 : Heap) (locs1 : List Loc), Wd Γ w0 s ws' H1 locs1 → W p l e R s m args below meth c H1 locs1 cells slots Q (F0 m (pc + 3) ls rest)) : W p l e R s m args below meth c H locs cells slots Q (F0 m pc ls (v :: .ref a :: rest)) := x_put X Y iX1 tyX1 tyX1_ok nmX1 rfl 4 (by decide) rfl kw235 rfl q0 he hn hfit hl hw hdg kk
theorem pfX1_37 (X : Cx Γ p s m args meth c RX1 cc nL ret w0) (Y : Wd Γ w0 s ws H locs) (q0 : Nat) {fs : List Value} (he : ws[q0]? = some (a, .inr (1, fs))) {v : Value} (hn : narrow (tyX1 5) v = v) (hfit : fits (tyX1 5) v = true) (hl : 5 < fs.length) (hw : ws.set q0 (a, .inr (1, fs.set 5 v)) = ws') (hdg : decode cc pc = .ok (.putfield 37, 3)) (kk : ∀ (H1 : Heap) (locs1 : List Loc), Wd Γ w0 s ws' H1 locs1 → W p l e R s m args below meth c H1 locs1 cells slots Q (F0 m (pc + 3) ls rest)) : W p l e R s m args below meth c H locs cells slots Q (F0 m pc ls (v :: .ref a :: rest)) := x_put X Y iX1 tyX1 tyX1_ok nmX1 rfl 5 (by decide) rfl kw230 rfl q0 he hn hfit hl hw hdg kk
def rmC_restart : Room := { frames := 0, cells := 0, slots := 0, locals := 0 }
def C_restart (x1 : Int32) (x2 : Int32) (csw : Int32) (cca : Int32) (csi : Int32) (cab : Int32) (cun : Int32) (csg : Int32) : Option (Int32 × Int32 × Int32 × Int32 × Int32 × Int32) := some (x1, x2, (0 : Int32), (0 : Int32), (0 : Int32), (0 : Int32))
set_option maxHeartbeats 4000000 in
set_option maxRecDepth 100000 in
theorem bC_restart_e {Ac : Nat → Nat} {csw : Int32} {cca : Int32} {csi : Int32} {cab : Int32} {cun : Int32} {csg : Int32} {cfa : Nat → Int32} {che : Nat → Int32} {cst : Nat → Int32} {csw_z : Int32} {cca_z : Int32} {csi_z : Int32} {cab_z : Int32} {cun_z : Int32} {csg_z : Int32} {x1 : Int32} {x2 : Int32} (X : Cx Γ p s m args meth c RX1 cX1_restart 3 none w0) (hf : C_restart x1 x2 csw cca csi cab cun csg = some (csw_z, cca_z, csi_z, cab_z, cun_z, csg_z)) (Y : Wd Γ w0 s (WC Γ Ac csw cca csi cab cun csg cfa che cst) H locs) (hl : lv_has ls 3 [(0, .ref (Ac 0)), (1, .int x1), (2, .int x2)]) : W p l e rmC_restart s m args below meth c H locs 0 0 (EV Γ below args s w0 (WC Γ Ac csw_z cca_z csi_z cab_z cun_z csg_z cfa che cst)) (F0 m 0 ls []) := by
  have hx := X.1
  have hb := X.2.1
  refine lv_aload_n hx hb dX1_restart_0 rfl (lv_at hl 0 rfl) ?_
  refine lv_iload_n hx hb dX1_restart_1 rfl (lv_at hl 1 rfl) ?_
  refine pfX1_9 X Y 0 rfl rfl rfl (Nat.le_of_ble_eq_true rfl) (ws' := (WC Γ Ac x1 cca csi cab cun csg cfa che cst)) rfl dX1_restart_2 (fun H locs Y => ?_)
  refine lv_aload_n hx hb dX1_restart_5 rfl (lv_at hl 0 rfl) ?_
  refine lv_iload_n hx hb dX1_restart_6 rfl (lv_at hl 2 rfl) ?_
  refine pfX1_15 X Y 0 rfl rfl rfl (Nat.le_of_ble_eq_true rfl) (ws' := (WC Γ Ac x1 x2 csi cab cun csg cfa che cst)) rfl dX1_restart_7 (fun H locs Y => ?_)
  refine lv_aload_n hx hb dX1_restart_10 rfl (lv_at hl 0 rfl) ?_
  refine lv_iconst (v := (0 : Int32)) hx hb dX1_restart_11 (by decide) ?_
  refine pfX1_28 X Y 0 rfl rfl rfl (Nat.le_of_ble_eq_true rfl) (ws' := (WC Γ Ac x1 x2 (0 : Int32) cab cun csg cfa che cst)) rfl dX1_restart_12 (fun H locs Y => ?_)
  refine lv_aload_n hx hb dX1_restart_15 rfl (lv_at hl 0 rfl) ?_
  refine lv_iconst (v := (0 : Int32)) hx hb dX1_restart_16 (by decide) ?_
  refine pfX1_31 X Y 0 rfl rfl rfl (Nat.le_of_ble_eq_true rfl) (ws' := (WC Γ Ac x1 x2 (0 : Int32) (0 : Int32) cun csg cfa che cst)) rfl dX1_restart_17 (fun H locs Y => ?_)
  refine lv_aload_n hx hb dX1_restart_20 rfl (lv_at hl 0 rfl) ?_
  refine lv_iconst (v := (0 : Int32)) hx hb dX1_restart_21 (by decide) ?_
  refine pfX1_34 X Y 0 rfl rfl rfl (Nat.le_of_ble_eq_true rfl) (ws' := (WC Γ Ac x1 x2 (0 : Int32) (0 : Int32) (0 : Int32) csg cfa che cst)) rfl dX1_restart_22 (fun H locs Y => ?_)
  refine lv_aload_n hx hb dX1_restart_25 rfl (lv_at hl 0 rfl) ?_
  refine lv_iconst (v := (0 : Int32)) hx hb dX1_restart_26 (by decide) ?_
  refine pfX1_37 X Y 0 rfl rfl rfl (Nat.le_of_ble_eq_true rfl) (ws' := (WC Γ Ac x1 x2 (0 : Int32) (0 : Int32) (0 : Int32) (0 : Int32) cfa che cst)) rfl dX1_restart_27 (fun H locs Y => ?_)
  obtain ⟨e90, e91, e92, e93, e94, e95⟩ := sj6 hf
  subst e90
  subst e91
  subst e92
  subst e93
  subst e94
  subst e95
  exact x_vret X Y dX1_restart_30
theorem cC_restart {l : Launch} {Γ : Gm} {Ac : Nat → Nat} {csw : Int32} {cca : Int32} {csi : Int32} {cab : Int32} {cun : Int32} {csg : Int32} {cfa : Nat → Int32} {che : Nat → Int32} {cst : Nat → Int32} {csw_z : Int32} {cca_z : Int32} {csi_z : Int32} {cab_z : Int32} {cun_z : Int32} {csg_z : Int32} {x1 : Int32} {x2 : Int32} (h : C_restart x1 x2 csw cca csi cab cun csg = some (csw_z, cca_z, csi_z, cab_z, cun_z, csg_z)) : CV l Γ yX1_restart (Cond.code yX1_restart cX1_restart 3 none :: GW) rmC_restart [.ref (Ac 0), .int x1, .int x2] (WC Γ Ac csw cca csi cab cun csg cfa che cst) (WC Γ Ac csw_z cca_z csi_z cab_z cun_z csg_z cfa che cst) := ofBody (Qc := QcV Γ _ _) (by decide) (Nat.le_of_ble_eq_true rfl) (fun p e s m below meth c ls _ X Y hl => bC_restart_e X h Y hl)
theorem gfX1_31 (X : Cx Γ p s m args meth c RX1 cc nL ret w0) (Y : Wd Γ w0 s ws H locs) {v : Value} (q0 : Nat) {fs : List Value} (he : ws[q0]? = some (a, .inr (1, fs))) (hv : fs[3]? = some v) (hdg : decode cc pc = .ok (.getfield 31, 3)) (kk : W p l e R s m args below meth c H locs cells slots Q (F0 m (pc + 3) ls (v :: rest))) : W p l e R s m args below meth c H locs cells slots Q (F0 m pc ls (.ref a :: rest)) := x_get X Y iX1 rfl 3 (by decide) rfl kw234 q0 he hv hdg kk
def rmC_load : Room := { frames := 1, cells := 0, slots := 0, locals := 40 }
def C_load (csi : Int32) (cab : Int32) (cun : Int32) (cfa : Nat → Int32) (rw : Nat → Int32) : Option (Int32 × Int32 × Int32 × Int32 × (Nat → Int32)) := if (8 : Int32) ≤ csi then (some ((-1 : Int32), csi, cab, cun, cfa)) else (ck (cpb (0 : Int32) (csi * (6 : Int32)) (6 : Int32) 6 48) (bnd (va_cpy rw cfa (0 : Int32).toNatClampNeg (csi * (6 : Int32)).toNatClampNeg (6 : Int32).toNatClampNeg) (fun (cfa_3 : Nat → Int32) => bnd (cab ||| ((1 : Int32) <<< (csi &&& 31))) (fun (cab_5 : Int32) => bnd (csi + (1 : Int32)) (fun (csi_6 : Int32) => some ((csi_6 - (1 : Int32)), csi_6, cab_5, (0 : Int32), cfa_3))))))
set_option maxHeartbeats 4000000 in
set_option maxRecDepth 100000 in
theorem bC_load_e {Ac : Nat → Nat} {Ar : Nat → Nat} {csw : Int32} {cca : Int32} {csi : Int32} {cab : Int32} {cun : Int32} {csg : Int32} {cfa : Nat → Int32} {che : Nat → Int32} {cst : Nat → Int32} {rw : Nat → Int32} {csi_z : Int32} {cab_z : Int32} {cun_z : Int32} {cfa_z : Nat → Int32} {r0 : Int32} (X : Cx Γ p s m args meth c RX1 cX1_load 2 (some .int) w0) (hf : C_load csi cab cun cfa rw = some (r0, csi_z, cab_z, cun_z, cfa_z)) (Y : Wd Γ w0 s ((WC Γ Ac csw cca csi cab cun csg cfa che cst) ++ (WR6 Γ Ar rw)) H locs) (hl : lv_has ls 2 [(0, .ref (Ac 0)), (1, .ref (Ar 0))]) : W p l e rmC_load s m args below meth c H locs 0 0 (EI Γ below args s w0 ((WC Γ Ac csw cca csi_z cab_z cun_z csg cfa_z che cst) ++ (WR6 Γ Ar rw)) r0) (F0 m 0 ls []) := by
  have hx := X.1
  have hb := X.2.1
  refine lv_aload_n hx hb dX1_load_0 rfl (lv_at hl 0 rfl) ?_
  refine gfX1_28 X Y (v := .int csi) 0 rfl rfl dX1_load_1 ?_
  refine lv_bipush (v := (8 : Int32)) hx hb dX1_load_4 (by decide) ?_
  refine lv_icmp_ge (tgt := 16) hx hb dX1_load_6 (by decide) (fun c_1 => ?_) (fun c_1 => ?_)
  · have hf := ite_t hf c_1
    refine lv_iconst (v := (-1 : Int32)) hx hb dX1_load_16 (by decide) ?_
    obtain ⟨e90, e91, e92, e93, e94⟩ := sj5 hf
    subst e90
    subst e91
    subst e92
    subst e93
    subst e94
    exact x_iret X Y dX1_load_17
  · have hf := ite_f hf c_1
    refine lv_aload_n hx hb dX1_load_9 rfl (lv_at hl 1 rfl) ?_
    refine x_alen X Y 4 0 rfl rfl (v := (6 : Int32)) rfl dX1_load_10 ?_
    refine lv_bipush (v := (6 : Int32)) hx hb dX1_load_11 (by decide) ?_
    refine lv_icmp_ge (tgt := 18) hx hb dX1_load_13 (by decide) (fun _ => ?_) (fun c9 => absurd c9 (by decide))
    refine lv_aload_n hx hb dX1_load_18 rfl (lv_at hl 1 rfl) ?_
    refine lv_iconst (v := (0 : Int32)) hx hb dX1_load_19 (by decide) ?_
    refine lv_aload_n hx hb dX1_load_20 rfl (lv_at hl 0 rfl) ?_
    refine gfX1_18 X Y (v := .ref (Ac 1)) 0 rfl rfl dX1_load_21 ?_
    refine lv_aload_n hx hb dX1_load_24 rfl (lv_at hl 0 rfl) ?_
    refine gfX1_28 X Y (v := .int csi) 0 rfl rfl dX1_load_25 ?_
    refine lv_bipush (v := (6 : Int32)) hx hb dX1_load_28 (by decide) ?_
    refine lv_imul hx hb dX1_load_30 ?_
    refine lv_bipush (v := (6 : Int32)) hx hb dX1_load_31 (by decide) ?_
    obtain ⟨hi_4, hf⟩ := ck_some hf
    obtain ⟨cfa_3, e_cfa_3⟩ : ∃ z : Nat → Int32, z = (va_cpy rw cfa (0 : Int32).toNatClampNeg (csi * (6 : Int32)).toNatClampNeg (6 : Int32).toNatClampNeg) := ⟨_, rfl⟩
    have hf := bnd_eq hf e_cfa_3
    refine x_copy X Y kw236 kw237 kw238 kw239 4 1 rfl rfl hi_4 (ws' := ((WC Γ Ac csw cca csi cab cun csg cfa_3 che cst) ++ (WR6 Γ Ar rw))) (by subst e_cfa_3; rfl) hl.1 (by decide) (Nat.le_of_ble_eq_true rfl) dX1_load_33 (fun H locs Y => ?_)
    refine lv_aload_n hx hb dX1_load_36 rfl (lv_at hl 0 rfl) ?_
    refine lv_dup hx hb dX1_load_37 rfl ?_
    refine gfX1_31 X Y (v := .int cab) 0 rfl rfl dX1_load_38 ?_
    refine lv_iconst (v := (1 : Int32)) hx hb dX1_load_41 (by decide) ?_
    refine lv_aload_n hx hb dX1_load_42 rfl (lv_at hl 0 rfl) ?_
    refine gfX1_28 X Y (v := .int csi) 0 rfl rfl dX1_load_43 ?_
    refine lv_ishl hx hb dX1_load_46 ?_
    refine lv_ior hx hb dX1_load_47 ?_
    refine lv_topi (fun cab_5 e_cab_5 => ?_)
    have hf := bnd_eq hf e_cab_5
    refine pfX1_31 X Y 0 rfl rfl rfl (Nat.le_of_ble_eq_true rfl) (ws' := ((WC Γ Ac csw cca csi cab_5 cun csg cfa_3 che cst) ++ (WR6 Γ Ar rw))) rfl dX1_load_48 (fun H locs Y => ?_)
    refine lv_aload_n hx hb dX1_load_51 rfl (lv_at hl 0 rfl) ?_
    refine lv_iconst (v := (0 : Int32)) hx hb dX1_load_52 (by decide) ?_
    refine pfX1_34 X Y 0 rfl rfl rfl (Nat.le_of_ble_eq_true rfl) (ws' := ((WC Γ Ac csw cca csi cab_5 (0 : Int32) csg cfa_3 che cst) ++ (WR6 Γ Ar rw))) rfl dX1_load_53 (fun H locs Y => ?_)
    refine lv_aload_n hx hb dX1_load_56 rfl (lv_at hl 0 rfl) ?_
    refine lv_dup hx hb dX1_load_57 rfl ?_
    refine gfX1_28 X Y (v := .int csi) 0 rfl rfl dX1_load_58 ?_
    refine lv_iconst (v := (1 : Int32)) hx hb dX1_load_61 (by decide) ?_
    refine lv_iadd hx hb dX1_load_62 ?_
    refine lv_topi (fun csi_6 e_csi_6 => ?_)
    have hf := bnd_eq hf e_csi_6
    refine pfX1_28 X Y 0 rfl rfl rfl (Nat.le_of_ble_eq_true rfl) (ws' := ((WC Γ Ac csw cca csi_6 cab_5 (0 : Int32) csg cfa_3 che cst) ++ (WR6 Γ Ar rw))) rfl dX1_load_63 (fun H locs Y => ?_)
    refine lv_aload_n hx hb dX1_load_66 rfl (lv_at hl 0 rfl) ?_
    refine gfX1_28 X Y (v := .int csi_6) 0 rfl rfl dX1_load_67 ?_
    refine lv_iconst (v := (1 : Int32)) hx hb dX1_load_70 (by decide) ?_
    refine lv_isub hx hb dX1_load_71 ?_
    obtain ⟨e90, e91, e92, e93, e94⟩ := sj5 hf
    subst e90
    subst e91
    subst e92
    subst e93
    subst e94
    exact x_iret X Y dX1_load_72
theorem cC_load {l : Launch} {Γ : Gm} {Ac : Nat → Nat} {Ar : Nat → Nat} {csw : Int32} {cca : Int32} {csi : Int32} {cab : Int32} {cun : Int32} {csg : Int32} {cfa : Nat → Int32} {che : Nat → Int32} {cst : Nat → Int32} {rw : Nat → Int32} {csi_z : Int32} {cab_z : Int32} {cun_z : Int32} {cfa_z : Nat → Int32} {r0 : Int32} (h : C_load csi cab cun cfa rw = some (r0, csi_z, cab_z, cun_z, cfa_z)) : CI l Γ yX1_load (Cond.code yX1_load cX1_load 2 (some .int) :: GW) rmC_load [.ref (Ac 0), .ref (Ar 0)] ((WC Γ Ac csw cca csi cab cun csg cfa che cst) ++ (WR6 Γ Ar rw)) ((WC Γ Ac csw cca csi_z cab_z cun_z csg cfa_z che cst) ++ (WR6 Γ Ar rw)) r0 := ofBody (Qc := QcI Γ _ _ r0) (by decide) (Nat.le_of_ble_eq_true rfl) (fun p e s m below meth c ls _ X Y hl => bC_load_e X h Y hl)
def rmC_sight : Room := { frames := 1, cells := 0, slots := 0, locals := 40 }
def C_sight (csg : Int32) (cst : Nat → Int32) (rw : Nat → Int32) : Option (Int32 × Int32 × (Nat → Int32)) := if (6 : Int32) ≤ csg then (some ((0 : Int32), csg, cst)) else (ck (cpb (0 : Int32) (csg * (3 : Int32)) (3 : Int32) 3 18) (bnd (va_cpy rw cst (0 : Int32).toNatClampNeg (csg * (3 : Int32)).toNatClampNeg (3 : Int32).toNatClampNeg) (fun (cst_3 : Nat → Int32) => bnd (csg + (1 : Int32)) (fun (csg_5 : Int32) => some ((1 : Int32), csg_5, cst_3)))))
set_option maxHeartbeats 4000000 in
set_option maxRecDepth 100000 in
theorem bC_sight_e {Ac : Nat → Nat} {Ar : Nat → Nat} {csw : Int32} {cca : Int32} {csi : Int32} {cab : Int32} {cun : Int32} {csg : Int32} {cfa : Nat → Int32} {che : Nat → Int32} {cst : Nat → Int32} {rw : Nat → Int32} {csg_z : Int32} {cst_z : Nat → Int32} {r0 : Int32} (X : Cx Γ p s m args meth c RX1 cX1_sight 2 (some .boolean) w0) (hf : C_sight csg cst rw = some (r0, csg_z, cst_z)) (Y : Wd Γ w0 s ((WC Γ Ac csw cca csi cab cun csg cfa che cst) ++ (WR3 Γ Ar rw)) H locs) (hl : lv_has ls 2 [(0, .ref (Ac 0)), (1, .ref (Ar 0))]) : W p l e rmC_sight s m args below meth c H locs 0 0 (EI Γ below args s w0 ((WC Γ Ac csw cca csi cab cun csg_z cfa che cst_z) ++ (WR3 Γ Ar rw)) r0) (F0 m 0 ls []) := by
  have hx := X.1
  have hb := X.2.1
  refine lv_aload_n hx hb dX1_sight_0 rfl (lv_at hl 0 rfl) ?_
  refine gfX1_37 X Y (v := .int csg) 0 rfl rfl dX1_sight_1 ?_
  refine lv_bipush (v := (6 : Int32)) hx hb dX1_sight_4 (by decide) ?_
  refine lv_icmp_ge (tgt := 15) hx hb dX1_sight_6 (by decide) (fun c_1 => ?_) (fun c_1 => ?_)
  · have hf := ite_t hf c_1
    refine lv_iconst (v := (0 : Int32)) hx hb dX1_sight_15 (by decide) ?_
    obtain ⟨e90, e91, e92⟩ := sj3 hf
    subst e90
    subst e91
    subst e92
    exact x_zret X Y rfl dX1_sight_16
  · have hf := ite_f hf c_1
    refine lv_aload_n hx hb dX1_sight_9 rfl (lv_at hl 1 rfl) ?_
    refine x_alen X Y 4 0 rfl rfl (v := (3 : Int32)) rfl dX1_sight_10 ?_
    refine lv_iconst (v := (3 : Int32)) hx hb dX1_sight_11 (by decide) ?_
    refine lv_icmp_ge (tgt := 17) hx hb dX1_sight_12 (by decide) (fun _ => ?_) (fun c9 => absurd c9 (by decide))
    refine lv_aload_n hx hb dX1_sight_17 rfl (lv_at hl 1 rfl) ?_
    refine lv_iconst (v := (0 : Int32)) hx hb dX1_sight_18 (by decide) ?_
    refine lv_aload_n hx hb dX1_sight_19 rfl (lv_at hl 0 rfl) ?_
    refine gfX1_25 X Y (v := .ref (Ac 3)) 0 rfl rfl dX1_sight_20 ?_
    refine lv_aload_n hx hb dX1_sight_23 rfl (lv_at hl 0 rfl) ?_
    refine gfX1_37 X Y (v := .int csg) 0 rfl rfl dX1_sight_24 ?_
    refine lv_iconst (v := (3 : Int32)) hx hb dX1_sight_27 (by decide) ?_
    refine lv_imul hx hb dX1_sight_28 ?_
    refine lv_iconst (v := (3 : Int32)) hx hb dX1_sight_29 (by decide) ?_
    obtain ⟨hi_4, hf⟩ := ck_some hf
    obtain ⟨cst_3, e_cst_3⟩ : ∃ z : Nat → Int32, z = (va_cpy rw cst (0 : Int32).toNatClampNeg (csg * (3 : Int32)).toNatClampNeg (3 : Int32).toNatClampNeg) := ⟨_, rfl⟩
    have hf := bnd_eq hf e_cst_3
    refine x_copy X Y kw236 kw237 kw238 kw239 4 3 rfl rfl hi_4 (ws' := ((WC Γ Ac csw cca csi cab cun csg cfa che cst_3) ++ (WR3 Γ Ar rw))) (by subst e_cst_3; rfl) hl.1 (by decide) (Nat.le_of_ble_eq_true rfl) dX1_sight_30 (fun H locs Y => ?_)
    refine lv_aload_n hx hb dX1_sight_33 rfl (lv_at hl 0 rfl) ?_
    refine lv_dup hx hb dX1_sight_34 rfl ?_
    refine gfX1_37 X Y (v := .int csg) 0 rfl rfl dX1_sight_35 ?_
    refine lv_iconst (v := (1 : Int32)) hx hb dX1_sight_38 (by decide) ?_
    refine lv_iadd hx hb dX1_sight_39 ?_
    refine lv_topi (fun csg_5 e_csg_5 => ?_)
    have hf := bnd_eq hf e_csg_5
    refine pfX1_37 X Y 0 rfl rfl rfl (Nat.le_of_ble_eq_true rfl) (ws' := ((WC Γ Ac csw cca csi cab cun csg_5 cfa che cst_3) ++ (WR3 Γ Ar rw))) rfl dX1_sight_40 (fun H locs Y => ?_)
    refine lv_iconst (v := (1 : Int32)) hx hb dX1_sight_43 (by decide) ?_
    obtain ⟨e90, e91, e92⟩ := sj3 hf
    subst e90
    subst e91
    subst e92
    exact x_zret X Y rfl dX1_sight_44
theorem cC_sight {l : Launch} {Γ : Gm} {Ac : Nat → Nat} {Ar : Nat → Nat} {csw : Int32} {cca : Int32} {csi : Int32} {cab : Int32} {cun : Int32} {csg : Int32} {cfa : Nat → Int32} {che : Nat → Int32} {cst : Nat → Int32} {rw : Nat → Int32} {csg_z : Int32} {cst_z : Nat → Int32} {r0 : Int32} (h : C_sight csg cst rw = some (r0, csg_z, cst_z)) : CI l Γ yX1_sight (Cond.code yX1_sight cX1_sight 2 (some .boolean) :: GW) rmC_sight [.ref (Ac 0), .ref (Ar 0)] ((WC Γ Ac csw cca csi cab cun csg cfa che cst) ++ (WR3 Γ Ar rw)) ((WC Γ Ac csw cca csi cab cun csg_z cfa che cst_z) ++ (WR3 Γ Ar rw)) r0 := ofBody (Qc := QcI Γ _ _ r0) (by decide) (Nat.le_of_ble_eq_true rfl) (fun p e s m below meth c ls _ X Y hl => bC_sight_e X h Y hl)
theorem gfX1_9 (X : Cx Γ p s m args meth c RX1 cc nL ret w0) (Y : Wd Γ w0 s ws H locs) {v : Value} (q0 : Nat) {fs : List Value} (he : ws[q0]? = some (a, .inr (1, fs))) (hv : fs[0]? = some v) (hdg : decode cc pc = .ok (.getfield 9, 3)) (kk : W p l e R s m args below meth c H locs cells slots Q (F0 m (pc + 3) ls (v :: rest))) : W p l e R s m args below meth c H locs cells slots Q (F0 m pc ls (.ref a :: rest)) := x_get X Y iX1 rfl 0 (by decide) rfl kw232 q0 he hv hdg kk
theorem gfX1_15 (X : Cx Γ p s m args meth c RX1 cc nL ret w0) (Y : Wd Γ w0 s ws H locs) {v : Value} (q0 : Nat) {fs : List Value} (he : ws[q0]? = some (a, .inr (1, fs))) (hv : fs[1]? = some v) (hdg : decode cc pc = .ok (.getfield 15, 3)) (kk : W p l e R s m args below meth c H locs cells slots Q (F0 m (pc + 3) ls (v :: rest))) : W p l e R s m args below meth c H locs cells slots Q (F0 m pc ls (.ref a :: rest)) := x_get X Y iX1 rfl 1 (by decide) rfl kw233 q0 he hv hdg kk
theorem gfX1_34 (X : Cx Γ p s m args meth c RX1 cc nL ret w0) (Y : Wd Γ w0 s ws H locs) {v : Value} (q0 : Nat) {fs : List Value} (he : ws[q0]? = some (a, .inr (1, fs))) (hv : fs[4]? = some v) (hdg : decode cc pc = .ok (.getfield 34, 3)) (kk : W p l e R s m args below meth c H locs cells slots Q (F0 m (pc + 3) ls (v :: rest))) : W p l e R s m args below meth c H locs cells slots Q (F0 m pc ls (.ref a :: rest)) := x_get X Y iX1 rfl 4 (by decide) rfl kw235 q0 he hv hdg kk
theorem gfX1_22 (X : Cx Γ p s m args meth c RX1 cc nL ret w0) (Y : Wd Γ w0 s ws H locs) {v : Value} (q0 : Nat) {fs : List Value} (he : ws[q0]? = some (a, .inr (1, fs))) (hv : fs[7]? = some v) (hdg : decode cc pc = .ok (.getfield 22, 3)) (kk : W p l e R s m args below meth c H locs cells slots Q (F0 m (pc + 3) ls (v :: rest))) : W p l e R s m args below meth c H locs cells slots Q (F0 m pc ls (.ref a :: rest)) := x_get X Y iX1 rfl 7 (by decide) rfl kw240 q0 he hv hdg kk
def rmC_become : Room := { frames := 1, cells := 0, slots := 0, locals := 40 }
def C_become (csw : Int32) (cca : Int32) (csi : Int32) (cab : Int32) (cun : Int32) (csg : Int32) (cfa : Nat → Int32) (che : Nat → Int32) (cst : Nat → Int32) (osw : Int32) (oca : Int32) (osi : Int32) (oab : Int32) (oun : Int32) (osg : Int32) (ofa : Nat → Int32) (ohe : Nat → Int32) (ost : Nat → Int32) : Option (Int32 × Int32 × Int32 × Int32 × Int32 × Int32 × (Nat → Int32) × (Nat → Int32) × (Nat → Int32)) := ck (cpb (0 : Int32) (0 : Int32) (48 : Int32) 48 48) (bnd (va_cpy ofa cfa (0 : Int32).toNatClampNeg (0 : Int32).toNatClampNeg (48 : Int32).toNatClampNeg) (fun (cfa_1 : Nat → Int32) => ck (cpb (0 : Int32) (0 : Int32) (8 : Int32) 8 8) (bnd (va_cpy ohe che (0 : Int32).toNatClampNeg (0 : Int32).toNatClampNeg (8 : Int32).toNatClampNeg) (fun (che_3 : Nat → Int32) => ck (cpb (0 : Int32) (0 : Int32) (18 : Int32) 18 18) (bnd (va_cpy ost cst (0 : Int32).toNatClampNeg (0 : Int32).toNatClampNeg (18 : Int32).toNatClampNeg) (fun (cst_5 : Nat → Int32) => some (osw, oca, osi, oab, oun, osg, cfa_1, che_3, cst_5)))))))
set_option maxHeartbeats 4000000 in
set_option maxRecDepth 100000 in
theorem bC_become_e {Ac : Nat → Nat} {Ao : Nat → Nat} {csw : Int32} {cca : Int32} {csi : Int32} {cab : Int32} {cun : Int32} {csg : Int32} {cfa : Nat → Int32} {che : Nat → Int32} {cst : Nat → Int32} {osw : Int32} {oca : Int32} {osi : Int32} {oab : Int32} {oun : Int32} {osg : Int32} {ofa : Nat → Int32} {ohe : Nat → Int32} {ost : Nat → Int32} {csw_z : Int32} {cca_z : Int32} {csi_z : Int32} {cab_z : Int32} {cun_z : Int32} {csg_z : Int32} {cfa_z : Nat → Int32} {che_z : Nat → Int32} {cst_z : Nat → Int32} (X : Cx Γ p s m args meth c RX1 cX1_become 2 none w0) (hf : C_become csw cca csi cab cun csg cfa che cst osw oca osi oab oun osg ofa ohe ost = some (csw_z, cca_z, csi_z, cab_z, cun_z, csg_z, cfa_z, che_z, cst_z)) (Y : Wd Γ w0 s ((WC Γ Ac csw cca csi cab cun csg cfa che cst) ++ (WC Γ Ao osw oca osi oab oun osg ofa ohe ost)) H locs) (hl : lv_has ls 2 [(0, .ref (Ac 0)), (1, .ref (Ao 0))]) : W p l e rmC_become s m args below meth c H locs 0 0 (EV Γ below args s w0 ((WC Γ Ac csw_z cca_z csi_z cab_z cun_z csg_z cfa_z che_z cst_z) ++ (WC Γ Ao osw oca osi oab oun osg ofa ohe ost))) (F0 m 0 ls []) := by
  have hx := X.1
  have hb := X.2.1
  refine lv_aload_n hx hb dX1_become_0 rfl (lv_at hl 0 rfl) ?_
  refine lv_aload_n hx hb dX1_become_1 rfl (lv_at hl 1 rfl) ?_
  refine gfX1_9 X Y (v := .int osw) 4 rfl rfl dX1_become_2 ?_
  refine pfX1_9 X Y 0 rfl rfl rfl (Nat.le_of_ble_eq_true rfl) (ws' := ((WC Γ Ac osw cca csi cab cun csg cfa che cst) ++ (WC Γ Ao osw oca osi oab oun osg ofa ohe ost))) rfl dX1_become_5 (fun H locs Y => ?_)
  refine lv_aload_n hx hb dX1_become_8 rfl (lv_at hl 0 rfl) ?_
  refine lv_aload_n hx hb dX1_become_9 rfl (lv_at hl 1 rfl) ?_
  refine gfX1_15 X Y (v := .int oca) 4 rfl rfl dX1_become_10 ?_
  refine pfX1_15 X Y 0 rfl rfl rfl (Nat.le_of_ble_eq_true rfl) (ws' := ((WC Γ Ac osw oca csi cab cun csg cfa che cst) ++ (WC Γ Ao osw oca osi oab oun osg ofa ohe ost))) rfl dX1_become_13 (fun H locs Y => ?_)
  refine lv_aload_n hx hb dX1_become_16 rfl (lv_at hl 0 rfl) ?_
  refine lv_aload_n hx hb dX1_become_17 rfl (lv_at hl 1 rfl) ?_
  refine gfX1_28 X Y (v := .int osi) 4 rfl rfl dX1_become_18 ?_
  refine pfX1_28 X Y 0 rfl rfl rfl (Nat.le_of_ble_eq_true rfl) (ws' := ((WC Γ Ac osw oca osi cab cun csg cfa che cst) ++ (WC Γ Ao osw oca osi oab oun osg ofa ohe ost))) rfl dX1_become_21 (fun H locs Y => ?_)
  refine lv_aload_n hx hb dX1_become_24 rfl (lv_at hl 0 rfl) ?_
  refine lv_aload_n hx hb dX1_become_25 rfl (lv_at hl 1 rfl) ?_
  refine gfX1_31 X Y (v := .int oab) 4 rfl rfl dX1_become_26 ?_
  refine pfX1_31 X Y 0 rfl rfl rfl (Nat.le_of_ble_eq_true rfl) (ws' := ((WC Γ Ac osw oca osi oab cun csg cfa che cst) ++ (WC Γ Ao osw oca osi oab oun osg ofa ohe ost))) rfl dX1_become_29 (fun H locs Y => ?_)
  refine lv_aload_n hx hb dX1_become_32 rfl (lv_at hl 0 rfl) ?_
  refine lv_aload_n hx hb dX1_become_33 rfl (lv_at hl 1 rfl) ?_
  refine gfX1_34 X Y (v := .int oun) 4 rfl rfl dX1_become_34 ?_
  refine pfX1_34 X Y 0 rfl rfl rfl (Nat.le_of_ble_eq_true rfl) (ws' := ((WC Γ Ac osw oca osi oab oun csg cfa che cst) ++ (WC Γ Ao osw oca osi oab oun osg ofa ohe ost))) rfl dX1_become_37 (fun H locs Y => ?_)
  refine lv_aload_n hx hb dX1_become_40 rfl (lv_at hl 0 rfl) ?_
  refine lv_aload_n hx hb dX1_become_41 rfl (lv_at hl 1 rfl) ?_
  refine gfX1_37 X Y (v := .int osg) 4 rfl rfl dX1_become_42 ?_
  refine pfX1_37 X Y 0 rfl rfl rfl (Nat.le_of_ble_eq_true rfl) (ws' := ((WC Γ Ac osw oca osi oab oun osg cfa che cst) ++ (WC Γ Ao osw oca osi oab oun osg ofa ohe ost))) rfl dX1_become_45 (fun H locs Y => ?_)
  refine lv_aload_n hx hb dX1_become_48 rfl (lv_at hl 1 rfl) ?_
  refine gfX1_18 X Y (v := .ref (Ao 1)) 4 rfl rfl dX1_become_49 ?_
  refine lv_iconst (v := (0 : Int32)) hx hb dX1_become_52 (by decide) ?_
  refine lv_aload_n hx hb dX1_become_53 rfl (lv_at hl 0 rfl) ?_
  refine gfX1_18 X Y (v := .ref (Ac 1)) 0 rfl rfl dX1_become_54 ?_
  refine lv_iconst (v := (0 : Int32)) hx hb dX1_become_57 (by decide) ?_
  refine lv_aload_n hx hb dX1_become_58 rfl (lv_at hl 0 rfl) ?_
  refine gfX1_18 X Y (v := .ref (Ac 1)) 0 rfl rfl dX1_become_59 ?_
  refine x_alen X Y 1 0 rfl rfl (v := (48 : Int32)) rfl dX1_become_62 ?_
  obtain ⟨hi_2, hf⟩ := ck_some hf
  obtain ⟨cfa_1, e_cfa_1⟩ : ∃ z : Nat → Int32, z = (va_cpy ofa cfa (0 : Int32).toNatClampNeg (0 : Int32).toNatClampNeg (48 : Int32).toNatClampNeg) := ⟨_, rfl⟩
  have hf := bnd_eq hf e_cfa_1
  refine x_copy X Y kw236 kw237 kw238 kw239 5 1 rfl rfl hi_2 (ws' := ((WC Γ Ac osw oca osi oab oun osg cfa_1 che cst) ++ (WC Γ Ao osw oca osi oab oun osg ofa ohe ost))) (by subst e_cfa_1; rfl) hl.1 (by decide) (Nat.le_of_ble_eq_true rfl) dX1_become_63 (fun H locs Y => ?_)
  refine lv_aload_n hx hb dX1_become_66 rfl (lv_at hl 1 rfl) ?_
  refine gfX1_22 X Y (v := .ref (Ao 2)) 4 rfl rfl dX1_become_67 ?_
  refine lv_iconst (v := (0 : Int32)) hx hb dX1_become_70 (by decide) ?_
  refine lv_aload_n hx hb dX1_become_71 rfl (lv_at hl 0 rfl) ?_
  refine gfX1_22 X Y (v := .ref (Ac 2)) 0 rfl rfl dX1_become_72 ?_
  refine lv_iconst (v := (0 : Int32)) hx hb dX1_become_75 (by decide) ?_
  refine lv_aload_n hx hb dX1_become_76 rfl (lv_at hl 0 rfl) ?_
  refine gfX1_22 X Y (v := .ref (Ac 2)) 0 rfl rfl dX1_become_77 ?_
  refine x_alen X Y 2 0 rfl rfl (v := (8 : Int32)) rfl dX1_become_80 ?_
  obtain ⟨hi_4, hf⟩ := ck_some hf
  obtain ⟨che_3, e_che_3⟩ : ∃ z : Nat → Int32, z = (va_cpy ohe che (0 : Int32).toNatClampNeg (0 : Int32).toNatClampNeg (8 : Int32).toNatClampNeg) := ⟨_, rfl⟩
  have hf := bnd_eq hf e_che_3
  refine x_copy X Y kw236 kw237 kw238 kw239 6 2 rfl rfl hi_4 (ws' := ((WC Γ Ac osw oca osi oab oun osg cfa_1 che_3 cst) ++ (WC Γ Ao osw oca osi oab oun osg ofa ohe ost))) (by subst e_che_3; rfl) hl.1 (by decide) (Nat.le_of_ble_eq_true rfl) dX1_become_81 (fun H locs Y => ?_)
  refine lv_aload_n hx hb dX1_become_84 rfl (lv_at hl 1 rfl) ?_
  refine gfX1_25 X Y (v := .ref (Ao 3)) 4 rfl rfl dX1_become_85 ?_
  refine lv_iconst (v := (0 : Int32)) hx hb dX1_become_88 (by decide) ?_
  refine lv_aload_n hx hb dX1_become_89 rfl (lv_at hl 0 rfl) ?_
  refine gfX1_25 X Y (v := .ref (Ac 3)) 0 rfl rfl dX1_become_90 ?_
  refine lv_iconst (v := (0 : Int32)) hx hb dX1_become_93 (by decide) ?_
  refine lv_aload_n hx hb dX1_become_94 rfl (lv_at hl 0 rfl) ?_
  refine gfX1_25 X Y (v := .ref (Ac 3)) 0 rfl rfl dX1_become_95 ?_
  refine x_alen X Y 3 0 rfl rfl (v := (18 : Int32)) rfl dX1_become_98 ?_
  obtain ⟨hi_6, hf⟩ := ck_some hf
  obtain ⟨cst_5, e_cst_5⟩ : ∃ z : Nat → Int32, z = (va_cpy ost cst (0 : Int32).toNatClampNeg (0 : Int32).toNatClampNeg (18 : Int32).toNatClampNeg) := ⟨_, rfl⟩
  have hf := bnd_eq hf e_cst_5
  refine x_copy X Y kw236 kw237 kw238 kw239 7 3 rfl rfl hi_6 (ws' := ((WC Γ Ac osw oca osi oab oun osg cfa_1 che_3 cst_5) ++ (WC Γ Ao osw oca osi oab oun osg ofa ohe ost))) (by subst e_cst_5; rfl) hl.1 (by decide) (Nat.le_of_ble_eq_true rfl) dX1_become_99 (fun H locs Y => ?_)
  obtain ⟨e90, e91, e92, e93, e94, e95, e96, e97, e98⟩ := sj9 hf
  subst e90
  subst e91
  subst e92
  subst e93
  subst e94
  subst e95
  subst e96
  subst e97
  subst e98
  exact x_vret X Y dX1_become_102
theorem cC_become {l : Launch} {Γ : Gm} {Ac : Nat → Nat} {Ao : Nat → Nat} {csw : Int32} {cca : Int32} {csi : Int32} {cab : Int32} {cun : Int32} {csg : Int32} {cfa : Nat → Int32} {che : Nat → Int32} {cst : Nat → Int32} {osw : Int32} {oca : Int32} {osi : Int32} {oab : Int32} {oun : Int32} {osg : Int32} {ofa : Nat → Int32} {ohe : Nat → Int32} {ost : Nat → Int32} {csw_z : Int32} {cca_z : Int32} {csi_z : Int32} {cab_z : Int32} {cun_z : Int32} {csg_z : Int32} {cfa_z : Nat → Int32} {che_z : Nat → Int32} {cst_z : Nat → Int32} (h : C_become csw cca csi cab cun csg cfa che cst osw oca osi oab oun osg ofa ohe ost = some (csw_z, cca_z, csi_z, cab_z, cun_z, csg_z, cfa_z, che_z, cst_z)) : CV l Γ yX1_become (Cond.code yX1_become cX1_become 2 none :: GW) rmC_become [.ref (Ac 0), .ref (Ao 0)] ((WC Γ Ac csw cca csi cab cun csg cfa che cst) ++ (WC Γ Ao osw oca osi oab oun osg ofa ohe ost)) ((WC Γ Ac csw_z cca_z csi_z cab_z cun_z csg_z cfa_z che_z cst_z) ++ (WC Γ Ao osw oca osi oab oun osg ofa ohe ost)) := ofBody (Qc := QcV Γ _ _) (by decide) (Nat.le_of_ble_eq_true rfl) (fun p e s m below meth c ls _ X Y hl => bC_become_e X h Y hl)
def rmC_retell : Room := { frames := 1, cells := 0, slots := 0, locals := 21 }
def C_retell (x1 : Int32) (x2 : Int32) (csi : Int32) (cfa : Nat → Int32) : Option ((Nat → Int32)) := bd1 (C_has x1 csi) (fun (r_1 : Int32) => if r_1 = 0 then (some cfa) else (ck (inb ((x1 * (6 : Int32)) + (5 : Int32)) 48) (bnd (upd cfa ((x1 * (6 : Int32)) + (5 : Int32)).toNatClampNeg x2) (fun (cfa_3 : Nat → Int32) => some cfa_3))))
set_option maxHeartbeats 4000000 in
set_option maxRecDepth 100000 in
theorem bC_retell_e {Ac : Nat → Nat} {csw : Int32} {cca : Int32} {csi : Int32} {cab : Int32} {cun : Int32} {csg : Int32} {cfa : Nat → Int32} {che : Nat → Int32} {cst : Nat → Int32} {cfa_z : Nat → Int32} {x1 : Int32} {x2 : Int32} (X : Cx Γ p s m args meth c RX1 cX1_retell 3 none w0) (hf : C_retell x1 x2 csi cfa = some cfa_z) (Y : Wd Γ w0 s (WC Γ Ac csw cca csi cab cun csg cfa che cst) H locs) (hl : lv_has ls 3 [(0, .ref (Ac 0)), (1, .int x1), (2, .int x2)]) : W p l e rmC_retell s m args below meth c H locs 0 0 (EV Γ below args s w0 (WC Γ Ac csw cca csi cab cun csg cfa_z che cst)) (F0 m 0 ls []) := by
  have hx := X.1
  have hb := X.2.1
  refine lv_aload_n hx hb dX1_retell_0 rfl (lv_at hl 0 rfl) ?_
  refine lv_iload_n hx hb dX1_retell_1 rfl (lv_at hl 1 rfl) ?_
  obtain ⟨r_1, ho_5, hf⟩ := bd1_some hf
  refine t_i Y (bkS Y) (r_V (As := [.int x1]) (rest := []) X (c_preS X Y) (cC_has ho_5) (cwX1_46 X (by decide)) (va_recv X.K Y.1 (q := (RX1, TX1, 9)) (q0 := 0) (ci := 1) rfl rfl) rfl hl.1 (Nat.le_of_ble_eq_true rfl) rfl dX1_retell_2 ⟨Nat.zero_le _, Nat.zero_le _⟩) (fun H locs Y => ?_)
  refine lv_if_eq (tgt := 20) hx hb dX1_retell_5 (by decide) (fun c_2 => ?_) (fun c_2 => ?_)
  · have hf := ite_t hf c_2
    have e90 := Option.some.inj hf
    subst e90
    exact x_vret X Y dX1_retell_20
  · have hf := ite_f hf c_2
    refine lv_aload_n hx hb dX1_retell_8 rfl (lv_at hl 0 rfl) ?_
    refine gfX1_18 X Y (v := .ref (Ac 1)) 0 rfl rfl dX1_retell_9 ?_
    refine lv_iload_n hx hb dX1_retell_12 rfl (lv_at hl 1 rfl) ?_
    refine lv_bipush (v := (6 : Int32)) hx hb dX1_retell_13 (by decide) ?_
    refine lv_imul hx hb dX1_retell_15 ?_
    refine lv_iconst (v := (5 : Int32)) hx hb dX1_retell_16 (by decide) ?_
    refine lv_iadd hx hb dX1_retell_17 ?_
    refine lv_iload_n hx hb dX1_retell_18 rfl (lv_at hl 2 rfl) ?_
    obtain ⟨hi_4, hf⟩ := ck_some hf
    obtain ⟨cfa_3, e_cfa_3⟩ : ∃ z : Nat → Int32, z = (upd cfa ((x1 * (6 : Int32)) + (5 : Int32)).toNatClampNeg x2) := ⟨_, rfl⟩
    have hf := bnd_eq hf e_cfa_3
    refine x_iast X Y 1 rfl rfl hi_4 (ws' := (WC Γ Ac csw cca csi cab cun csg cfa_3 che cst)) (by subst e_cfa_3; rfl) dX1_retell_19 (fun H locs Y => ?_)
    have e90 := Option.some.inj hf
    subst e90
    exact x_vret X Y dX1_retell_20
theorem cC_retell {l : Launch} {Γ : Gm} {Ac : Nat → Nat} {csw : Int32} {cca : Int32} {csi : Int32} {cab : Int32} {cun : Int32} {csg : Int32} {cfa : Nat → Int32} {che : Nat → Int32} {cst : Nat → Int32} {cfa_z : Nat → Int32} {x1 : Int32} {x2 : Int32} (h : C_retell x1 x2 csi cfa = some cfa_z) : CV l Γ yX1_retell (Cond.code yX1_retell cX1_retell 3 none :: GW) rmC_retell [.ref (Ac 0), .int x1, .int x2] (WC Γ Ac csw cca csi cab cun csg cfa che cst) (WC Γ Ac csw cca csi cab cun csg cfa_z che cst) := ofBody (Qc := QcV Γ _ _) (by decide) (Nat.le_of_ble_eq_true rfl) (fun p e s m below meth c ls _ X Y hl => bC_retell_e X h Y hl)
def rmC_heave : Room := { frames := 1, cells := 0, slots := 0, locals := 21 }
def C_heave (x1 : Int32) (csi : Int32) (cab : Int32) (cun : Int32) (che : Nat → Int32) : Option (Int32 × Int32 × (Nat → Int32)) := bd1 (C_has x1 csi) (fun (r_1 : Int32) => if r_1 = 0 then (some (cab, cun, che)) else (if (8 : Int32) ≤ cun then (some (cab, cun, che)) else (bnd (cab &&& (((1 : Int32) <<< (x1 &&& 31)) ^^^ (-1 : Int32))) (fun (cab_4 : Int32) => ck (inb cun 8) (bnd (upd che cun.toNatClampNeg x1) (fun (che_5 : Nat → Int32) => bnd (cun + (1 : Int32)) (fun (cun_7 : Int32) => some (cab_4, cun_7, che_5))))))))
set_option maxHeartbeats 4000000 in
set_option maxRecDepth 100000 in
theorem bC_heave_e {Ac : Nat → Nat} {csw : Int32} {cca : Int32} {csi : Int32} {cab : Int32} {cun : Int32} {csg : Int32} {cfa : Nat → Int32} {che : Nat → Int32} {cst : Nat → Int32} {cab_z : Int32} {cun_z : Int32} {che_z : Nat → Int32} {x1 : Int32} (X : Cx Γ p s m args meth c RX1 cX1_heave 2 none w0) (hf : C_heave x1 csi cab cun che = some (cab_z, cun_z, che_z)) (Y : Wd Γ w0 s (WC Γ Ac csw cca csi cab cun csg cfa che cst) H locs) (hl : lv_has ls 2 [(0, .ref (Ac 0)), (1, .int x1)]) : W p l e rmC_heave s m args below meth c H locs 0 0 (EV Γ below args s w0 (WC Γ Ac csw cca csi cab_z cun_z csg cfa che_z cst)) (F0 m 0 ls []) := by
  have hx := X.1
  have hb := X.2.1
  refine lv_aload_n hx hb dX1_heave_0 rfl (lv_at hl 0 rfl) ?_
  refine lv_iload_n hx hb dX1_heave_1 rfl (lv_at hl 1 rfl) ?_
  obtain ⟨r_1, ho_8, hf⟩ := bd1_some hf
  refine t_i Y (bkS Y) (r_V (As := [.int x1]) (rest := []) X (c_preS X Y) (cC_has ho_8) (cwX1_46 X (by decide)) (va_recv X.K Y.1 (q := (RX1, TX1, 9)) (q0 := 0) (ci := 1) rfl rfl) rfl hl.1 (Nat.le_of_ble_eq_true rfl) rfl dX1_heave_2 ⟨Nat.zero_le _, Nat.zero_le _⟩) (fun H locs Y => ?_)
  refine lv_if_eq (tgt := 51) hx hb dX1_heave_5 (by decide) (fun c_2 => ?_) (fun c_2 => ?_)
  · have hf := ite_t hf c_2
    obtain ⟨e90, e91, e92⟩ := sj3 hf
    subst e90
    subst e91
    subst e92
    exact x_vret X Y dX1_heave_51
  · have hf := ite_f hf c_2
    refine lv_aload_n hx hb dX1_heave_8 rfl (lv_at hl 0 rfl) ?_
    refine gfX1_34 X Y (v := .int cun) 0 rfl rfl dX1_heave_9 ?_
    refine lv_bipush (v := (8 : Int32)) hx hb dX1_heave_12 (by decide) ?_
    refine lv_icmp_ge (tgt := 51) hx hb dX1_heave_14 (by decide) (fun c_3 => ?_) (fun c_3 => ?_)
    · have hf := ite_t hf c_3
      obtain ⟨e90, e91, e92⟩ := sj3 hf
      subst e90
      subst e91
      subst e92
      exact x_vret X Y dX1_heave_51
    · have hf := ite_f hf c_3
      refine lv_aload_n hx hb dX1_heave_17 rfl (lv_at hl 0 rfl) ?_
      refine lv_dup hx hb dX1_heave_18 rfl ?_
      refine gfX1_31 X Y (v := .int cab) 0 rfl rfl dX1_heave_19 ?_
      refine lv_iconst (v := (1 : Int32)) hx hb dX1_heave_22 (by decide) ?_
      refine lv_iload_n hx hb dX1_heave_23 rfl (lv_at hl 1 rfl) ?_
      refine lv_ishl hx hb dX1_heave_24 ?_
      refine lv_iconst (v := (-1 : Int32)) hx hb dX1_heave_25 (by decide) ?_
      refine lv_ixor hx hb dX1_heave_26 ?_
      refine lv_iand hx hb dX1_heave_27 ?_
      refine lv_topi (fun cab_4 e_cab_4 => ?_)
      have hf := bnd_eq hf e_cab_4
      refine pfX1_31 X Y 0 rfl rfl rfl (Nat.le_of_ble_eq_true rfl) (ws' := (WC Γ Ac csw cca csi cab_4 cun csg cfa che cst)) rfl dX1_heave_28 (fun H locs Y => ?_)
      refine lv_aload_n hx hb dX1_heave_31 rfl (lv_at hl 0 rfl) ?_
      refine gfX1_22 X Y (v := .ref (Ac 2)) 0 rfl rfl dX1_heave_32 ?_
      refine lv_aload_n hx hb dX1_heave_35 rfl (lv_at hl 0 rfl) ?_
      refine gfX1_34 X Y (v := .int cun) 0 rfl rfl dX1_heave_36 ?_
      refine lv_iload_n hx hb dX1_heave_39 rfl (lv_at hl 1 rfl) ?_
      obtain ⟨hi_6, hf⟩ := ck_some hf
      obtain ⟨che_5, e_che_5⟩ : ∃ z : Nat → Int32, z = (upd che cun.toNatClampNeg x1) := ⟨_, rfl⟩
      have hf := bnd_eq hf e_che_5
      refine x_iast X Y 2 rfl rfl hi_6 (ws' := (WC Γ Ac csw cca csi cab_4 cun csg cfa che_5 cst)) (by subst e_che_5; rfl) dX1_heave_40 (fun H locs Y => ?_)
      refine lv_aload_n hx hb dX1_heave_41 rfl (lv_at hl 0 rfl) ?_
      refine lv_dup hx hb dX1_heave_42 rfl ?_
      refine gfX1_34 X Y (v := .int cun) 0 rfl rfl dX1_heave_43 ?_
      refine lv_iconst (v := (1 : Int32)) hx hb dX1_heave_46 (by decide) ?_
      refine lv_iadd hx hb dX1_heave_47 ?_
      refine lv_topi (fun cun_7 e_cun_7 => ?_)
      have hf := bnd_eq hf e_cun_7
      refine pfX1_34 X Y 0 rfl rfl rfl (Nat.le_of_ble_eq_true rfl) (ws' := (WC Γ Ac csw cca csi cab_4 cun_7 csg cfa che_5 cst)) rfl dX1_heave_48 (fun H locs Y => ?_)
      obtain ⟨e90, e91, e92⟩ := sj3 hf
      subst e90
      subst e91
      subst e92
      exact x_vret X Y dX1_heave_51
theorem cC_heave {l : Launch} {Γ : Gm} {Ac : Nat → Nat} {csw : Int32} {cca : Int32} {csi : Int32} {cab : Int32} {cun : Int32} {csg : Int32} {cfa : Nat → Int32} {che : Nat → Int32} {cst : Nat → Int32} {cab_z : Int32} {cun_z : Int32} {che_z : Nat → Int32} {x1 : Int32} (h : C_heave x1 csi cab cun che = some (cab_z, cun_z, che_z)) : CV l Γ yX1_heave (Cond.code yX1_heave cX1_heave 2 none :: GW) rmC_heave [.ref (Ac 0), .int x1] (WC Γ Ac csw cca csi cab cun csg cfa che cst) (WC Γ Ac csw cca csi cab_z cun_z csg cfa che_z cst) := ofBody (Qc := QcV Γ _ _) (by decide) (Nat.le_of_ble_eq_true rfl) (fun p e s m below meth c ls _ X Y hl => bC_heave_e X h Y hl)
def rmC_takeBack : Room := { frames := 1, cells := 0, slots := 0, locals := 22 }
def C_takeBack (cab : Int32) (cun : Int32) (che : Nat → Int32) : Option (Int32 × Int32 × Int32) := bd1 (X_within cun (1 : Int32) (8 : Int32)) (fun (r_1 : Int32) => if r_1 = 0 then (some ((0 : Int32), cab, cun)) else (bnd (cun - (1 : Int32)) (fun (cun_3 : Int32) => ck (inb cun_3 8) (bnd (cab ||| ((1 : Int32) <<< ((che cun_3.toNatClampNeg) &&& 31))) (fun (cab_5 : Int32) => some ((1 : Int32), cab_5, cun_3))))))
set_option maxHeartbeats 4000000 in
set_option maxRecDepth 100000 in
theorem bC_takeBack_e {Ac : Nat → Nat} {csw : Int32} {cca : Int32} {csi : Int32} {cab : Int32} {cun : Int32} {csg : Int32} {cfa : Nat → Int32} {che : Nat → Int32} {cst : Nat → Int32} {cab_z : Int32} {cun_z : Int32} {r0 : Int32} (X : Cx Γ p s m args meth c RX1 cX1_takeBack 1 (some .boolean) w0) (hf : C_takeBack cab cun che = some (r0, cab_z, cun_z)) (Y : Wd Γ w0 s (WC Γ Ac csw cca csi cab cun csg cfa che cst) H locs) (hl : lv_has ls 1 [(0, .ref (Ac 0))]) : W p l e rmC_takeBack s m args below meth c H locs 0 0 (EI Γ below args s w0 (WC Γ Ac csw cca csi cab_z cun_z csg cfa che cst) r0) (F0 m 0 ls []) := by
  have hx := X.1
  have hb := X.2.1
  refine lv_aload_n hx hb dX1_takeBack_0 rfl (lv_at hl 0 rfl) ?_
  refine gfX1_34 X Y (v := .int cun) 0 rfl rfl dX1_takeBack_1 ?_
  refine lv_iconst (v := (1 : Int32)) hx hb dX1_takeBack_4 (by decide) ?_
  refine lv_bipush (v := (8 : Int32)) hx hb dX1_takeBack_5 (by decide) ?_
  obtain ⟨r_1, ho_6, hf⟩ := bd1_some hf
  refine t_i Y (bk0 Y) (r_SN (As := [.int cun, .int (1 : Int32), .int (8 : Int32)]) (rest := []) X (c_pre0 X Y) (cX_within ho_6) (cwX1_50 X (by decide)) rfl hl.1 (Nat.le_of_ble_eq_true rfl) rfl dX1_takeBack_7 ⟨Nat.zero_le _, Nat.zero_le _⟩) (fun H locs Y => ?_)
  refine lv_if_ne (tgt := 15) hx hb dX1_takeBack_10 (by decide) (fun c_2 => ?_) (fun c_2 => ?_)
  · have hf := ite_f hf c_2
    refine lv_aload_n hx hb dX1_takeBack_15 rfl (lv_at hl 0 rfl) ?_
    refine lv_dup hx hb dX1_takeBack_16 rfl ?_
    refine gfX1_34 X Y (v := .int cun) 0 rfl rfl dX1_takeBack_17 ?_
    refine lv_iconst (v := (1 : Int32)) hx hb dX1_takeBack_20 (by decide) ?_
    refine lv_isub hx hb dX1_takeBack_21 ?_
    refine lv_topi (fun cun_3 e_cun_3 => ?_)
    have hf := bnd_eq hf e_cun_3
    refine pfX1_34 X Y 0 rfl rfl rfl (Nat.le_of_ble_eq_true rfl) (ws' := (WC Γ Ac csw cca csi cab cun_3 csg cfa che cst)) rfl dX1_takeBack_22 (fun H locs Y => ?_)
    refine lv_aload_n hx hb dX1_takeBack_25 rfl (lv_at hl 0 rfl) ?_
    refine lv_dup hx hb dX1_takeBack_26 rfl ?_
    refine gfX1_31 X Y (v := .int cab) 0 rfl rfl dX1_takeBack_27 ?_
    refine lv_iconst (v := (1 : Int32)) hx hb dX1_takeBack_30 (by decide) ?_
    refine lv_aload_n hx hb dX1_takeBack_31 rfl (lv_at hl 0 rfl) ?_
    refine gfX1_22 X Y (v := .ref (Ac 2)) 0 rfl rfl dX1_takeBack_32 ?_
    refine lv_aload_n hx hb dX1_takeBack_35 rfl (lv_at hl 0 rfl) ?_
    refine gfX1_34 X Y (v := .int cun_3) 0 rfl rfl dX1_takeBack_36 ?_
    obtain ⟨hi_4, hf⟩ := ck_some hf
    refine x_iald X Y 2 rfl rfl hi_4 dX1_takeBack_39 ?_
    refine lv_ishl hx hb dX1_takeBack_40 ?_
    refine lv_ior hx hb dX1_takeBack_41 ?_
    refine lv_topi (fun cab_5 e_cab_5 => ?_)
    have hf := bnd_eq hf e_cab_5
    refine pfX1_31 X Y 0 rfl rfl rfl (Nat.le_of_ble_eq_true rfl) (ws' := (WC Γ Ac csw cca csi cab_5 cun_3 csg cfa che cst)) rfl dX1_takeBack_42 (fun H locs Y => ?_)
    refine lv_iconst (v := (1 : Int32)) hx hb dX1_takeBack_45 (by decide) ?_
    obtain ⟨e90, e91, e92⟩ := sj3 hf
    subst e90
    subst e91
    subst e92
    exact x_zret X Y rfl dX1_takeBack_46
  · have hf := ite_t hf c_2
    refine lv_iconst (v := (0 : Int32)) hx hb dX1_takeBack_13 (by decide) ?_
    obtain ⟨e90, e91, e92⟩ := sj3 hf
    subst e90
    subst e91
    subst e92
    exact x_zret X Y rfl dX1_takeBack_14
theorem cC_takeBack {l : Launch} {Γ : Gm} {Ac : Nat → Nat} {csw : Int32} {cca : Int32} {csi : Int32} {cab : Int32} {cun : Int32} {csg : Int32} {cfa : Nat → Int32} {che : Nat → Int32} {cst : Nat → Int32} {cab_z : Int32} {cun_z : Int32} {r0 : Int32} (h : C_takeBack cab cun che = some (r0, cab_z, cun_z)) : CI l Γ yX1_takeBack (Cond.code yX1_takeBack cX1_takeBack 1 (some .boolean) :: GW) rmC_takeBack [.ref (Ac 0)] (WC Γ Ac csw cca csi cab cun csg cfa che cst) (WC Γ Ac csw cca csi cab_z cun_z csg cfa che cst) r0 := ofBody (Qc := QcI Γ _ _ r0) (by decide) (Nat.le_of_ble_eq_true rfl) (fun p e s m below meth c ls _ X Y hl => bC_takeBack_e X h Y hl)
theorem dmX11_isInS : yX11_isIn.cls ≠ "java/lang/invoke/MethodHandle" ∧ yX11_isIn.cls ≠ "java/lang/invoke/VarHandle" ∧ (parseMethodDescriptor yX11_isIn.desc).map (fun d => d.parameters.length) = some 2 := by decide +kernel
theorem cwX1_54 (X : Cx Γ p s m args meth c RX1 cc nL ret w0) (hR : rmX_isIn.frames + 1 ≤ R.frames ∧ 8 + (2 + 11) + rmX_isIn.locals ≤ R.locals) : va_CN R s args RX1 54 yX11_isIn "ThrownOver" cX11_isIn 2 (some .boolean) (Cond.code yX11_isIn cX11_isIn 2 (some .boolean) :: GW) rmX_isIn 0 0 2 ∧ (Cond.static yX11_isIn).before args s = true ∧ True := cw_SN X kw241 kw242 kw220 kw243 dmX11_isInS rfl rfl hR
theorem dmX1_factV : yX1_fact.cls = RX1 ∧ yX1_fact.cls ≠ "java/lang/invoke/MethodHandle" ∧ yX1_fact.cls ≠ "java/lang/invoke/VarHandle" ∧ (parseMethodDescriptor yX1_fact.desc).map (fun d => d.parameters.length) = some 2 := by decide +kernel
theorem cwX1_58 (X : Cx Γ p s m args meth c RX1 cc nL ret w0) (hR : rmC_fact.frames + 1 ≤ R.frames ∧ 8 + (3 + 11) + rmC_fact.locals ≤ R.locals) : CallW R s args RX1 RX1 58 yX1_fact cX1_fact 3 (some .int) (Cond.code yX1_fact cX1_fact 3 (some .int) :: GW) rmC_fact 0 0 2 := cw_V X kw244 kw245 kw246 kw228 kw247 dmX1_factV rfl rfl hR
def rmC_isTop : Room := { frames := 2, cells := 0, slots := 0, locals := 44 }
def C_isTop_22 (rc22 : Int32 → Int32 → Int32 → Int32 → (Nat → Int32) → Option (Int32)) (x1 : Int32) (x2 : Int32) (x3 : Int32) (csi : Int32) (cfa : Nat → Int32) : Option (Int32) := if csi ≤ x3 then (some (1 : Int32)) else (bd1 (X_isIn x2 x3) (fun (r_2 : Int32) => if r_2 = 0 then (bnd (x3 + (1 : Int32)) (fun (x3_4 : Int32) => rc22 x1 x2 x3_4 csi cfa)) else (bd1 (C_fact x3 (2 : Int32) csi cfa) (fun (r_5 : Int32) => bd1 (C_fact x1 (2 : Int32) csi cfa) (fun (r_6 : Int32) => if r_5 = r_6 then (some (0 : Int32)) else (bnd (x3 + (1 : Int32)) (fun (x3_8 : Int32) => rc22 x1 x2 x3_8 csi cfa)))))))
set_option maxHeartbeats 4000000 in
set_option maxRecDepth 100000 in
theorem bC_isTop_22 {Ac : Nat → Nat} {csw : Int32} {cca : Int32} {csi : Int32} {cab : Int32} {cun : Int32} {csg : Int32} {cfa : Nat → Int32} {che : Nat → Int32} {cst : Nat → Int32} {r0 : Int32} {x1 : Int32} {x2 : Int32} {x3 : Int32} {rc22 : Int32 → Int32 → Int32 → Int32 → (Nat → Int32) → Option (Int32)} (X : Cx Γ p s m args meth c RX1 cX1_isTop 4 (some .boolean) w0) (h22 : ∀ (x1 : Int32) (x2 : Int32) (x3 : Int32) (csi : Int32) (cfa : Nat → Int32), rc22 x1 x2 x3 csi cfa = some r0 → ∀ (H : Heap) (locs : List Loc) (ls : Array Slot), Wd Γ w0 s (WC Γ Ac csw cca csi cab cun csg cfa che cst) H locs → lv_has ls 4 [(0, .ref (Ac 0)), (1, .int x1), (2, .int x2), (3, .int x3)] → W p l e rmC_isTop s m args below meth c H locs 0 0 (EI Γ below args s w0 (WC Γ Ac csw cca csi cab cun csg cfa che cst) r0) (F0 m 22 ls [])) (hf : C_isTop_22 rc22 x1 x2 x3 csi cfa = some r0) (Y : Wd Γ w0 s (WC Γ Ac csw cca csi cab cun csg cfa che cst) H locs) (hl : lv_has ls 4 [(0, .ref (Ac 0)), (1, .int x1), (2, .int x2), (3, .int x3)]) : W p l e rmC_isTop s m args below meth c H locs 0 0 (EI Γ below args s w0 (WC Γ Ac csw cca csi cab cun csg cfa che cst) r0) (F0 m 22 ls []) := by
  have hx := X.1
  have hb := X.2.1
  refine lv_iload_n hx hb dX1_isTop_22 rfl (lv_at hl 3 rfl) ?_
  refine lv_aload_n hx hb dX1_isTop_23 rfl (lv_at hl 0 rfl) ?_
  refine gfX1_28 X Y (v := .int csi) 0 rfl rfl dX1_isTop_24 ?_
  refine lv_icmp_ge (tgt := 61) hx hb dX1_isTop_27 (by decide) (fun c_1 => ?_) (fun c_1 => ?_)
  · have hf := ite_t hf c_1
    refine lv_iconst (v := (1 : Int32)) hx hb dX1_isTop_61 (by decide) ?_
    have e90 := Option.some.inj hf
    subst e90
    exact x_zret X Y rfl dX1_isTop_62
  · have hf := ite_f hf c_1
    refine lv_iload_n hx hb dX1_isTop_30 rfl (lv_at hl 2 rfl) ?_
    refine lv_iload_n hx hb dX1_isTop_31 rfl (lv_at hl 3 rfl) ?_
    obtain ⟨r_2, ho_11, hf⟩ := bd1_some hf
    refine t_i Y (bk0 Y) (r_SN (As := [.int x2, .int x3]) (rest := []) X (c_pre0 X Y) (cX_isIn ho_11) (cwX1_54 X (by decide)) rfl hl.1 (Nat.le_of_ble_eq_true rfl) rfl dX1_isTop_32 ⟨Nat.zero_le _, Nat.zero_le _⟩) (fun H locs Y => ?_)
    refine lv_if_eq (tgt := 55) hx hb dX1_isTop_35 (by decide) (fun c_3 => ?_) (fun c_3 => ?_)
    · have hf := ite_t hf c_3
      obtain ⟨x3_4, e_x3_4⟩ : ∃ z : Int32, z = (x3 + (1 : Int32)) := ⟨_, rfl⟩
      have hf := bnd_eq hf e_x3_4
      refine lv_iinc (v := x3_4) (lv' := [(3, .int x3_4), (0, .ref (Ac 0)), (1, .int x1), (2, .int x2)]) hx hb dX1_isTop_55 hl (k := 3) rfl (by rw [e_x3_4]; rfl) (by decide) rfl (fun ls hl => ?_)
      refine lv_goto (tgt := 22) hx hb dX1_isTop_58 (by decide) ?_
      exact h22 _ _ _ _ _ hf _ _ _ Y (lv_sub hl [1, 2, 3, 0] rfl)
    · have hf := ite_f hf c_3
      refine lv_aload_n hx hb dX1_isTop_38 rfl (lv_at hl 0 rfl) ?_
      refine lv_iload_n hx hb dX1_isTop_39 rfl (lv_at hl 3 rfl) ?_
      refine lv_iconst (v := (2 : Int32)) hx hb dX1_isTop_40 (by decide) ?_
      obtain ⟨r_5, ho_10, hf⟩ := bd1_some hf
      refine t_i Y (bkS Y) (r_V (As := [.int x3, .int (2 : Int32)]) (rest := []) X (c_preS X Y) (cC_fact ho_10) (cwX1_58 X (by decide)) (va_recv X.K Y.1 (q := (RX1, TX1, 9)) (q0 := 0) (ci := 1) rfl rfl) rfl hl.1 (Nat.le_of_ble_eq_true rfl) rfl dX1_isTop_41 ⟨Nat.zero_le _, Nat.zero_le _⟩) (fun H locs Y => ?_)
      refine lv_aload_n hx hb dX1_isTop_44 rfl (lv_at hl 0 rfl) ?_
      refine lv_iload_n hx hb dX1_isTop_45 rfl (lv_at hl 1 rfl) ?_
      refine lv_iconst (v := (2 : Int32)) hx hb dX1_isTop_46 (by decide) ?_
      obtain ⟨r_6, ho_9, hf⟩ := bd1_some hf
      refine t_i Y (bkS Y) (r_V (As := [.int x1, .int (2 : Int32)]) (rest := [.int r_5]) X (c_preS X Y) (cC_fact ho_9) (cwX1_58 X (by decide)) (va_recv X.K Y.1 (q := (RX1, TX1, 9)) (q0 := 0) (ci := 1) rfl rfl) rfl hl.1 (Nat.le_of_ble_eq_true rfl) rfl dX1_isTop_47 ⟨Nat.zero_le _, Nat.zero_le _⟩) (fun H locs Y => ?_)
      refine lv_icmp_ne (tgt := 55) hx hb dX1_isTop_50 (by decide) (fun c_7 => ?_) (fun c_7 => ?_)
      · have hf := ite_f hf c_7
        obtain ⟨x3_8, e_x3_8⟩ : ∃ z : Int32, z = (x3 + (1 : Int32)) := ⟨_, rfl⟩
        have hf := bnd_eq hf e_x3_8
        refine lv_iinc (v := x3_8) (lv' := [(3, .int x3_8), (0, .ref (Ac 0)), (1, .int x1), (2, .int x2)]) hx hb dX1_isTop_55 hl (k := 3) rfl (by rw [e_x3_8]; rfl) (by decide) rfl (fun ls hl => ?_)
        refine lv_goto (tgt := 22) hx hb dX1_isTop_58 (by decide) ?_
        exact h22 _ _ _ _ _ hf _ _ _ Y (lv_sub hl [1, 2, 3, 0] rfl)
      · have hf := ite_t hf c_7
        refine lv_iconst (v := (0 : Int32)) hx hb dX1_isTop_53 (by decide) ?_
        have e90 := Option.some.inj hf
        subst e90
        exact x_zret X Y rfl dX1_isTop_54
def C_isTop_L22 : Nat → Int32 → Int32 → Int32 → Int32 → (Nat → Int32) → Option (Int32)
  | 0, _, _, _, _, _ => none
  | n + 1, x1, x2, x3, csi, cfa => C_isTop_22 (C_isTop_L22 n) x1 x2 x3 csi cfa
theorem lC_isTop_22 {Ac : Nat → Nat} {csw : Int32} {cca : Int32} {cab : Int32} {cun : Int32} {csg : Int32} {che : Nat → Int32} {cst : Nat → Int32} {r0 : Int32} (X : Cx Γ p s m args meth c RX1 cX1_isTop 4 (some .boolean) w0) : ∀ (n : Nat) (x1 : Int32) (x2 : Int32) (x3 : Int32) (csi : Int32) (cfa : Nat → Int32), C_isTop_L22 n x1 x2 x3 csi cfa = some r0 → ∀ (H : Heap) (locs : List Loc) (ls : Array Slot), Wd Γ w0 s (WC Γ Ac csw cca csi cab cun csg cfa che cst) H locs → lv_has ls 4 [(0, .ref (Ac 0)), (1, .int x1), (2, .int x2), (3, .int x3)] → W p l e rmC_isTop s m args below meth c H locs 0 0 (EI Γ below args s w0 (WC Γ Ac csw cca csi cab cun csg cfa che cst) r0) (F0 m 22 ls []) := by
  intro n
  induction n with
  | zero => intro x1 x2 x3 csi cfa hf; cases hf
  | succ n ih => intro x1 x2 x3 csi cfa hf H locs ls Y hl; exact bC_isTop_22 X ih hf Y hl
def C_isTop (x1 : Int32) (x2 : Int32) (csi : Int32) (cfa : Nat → Int32) : Option (Int32) := bd1 (C_has x1 csi) (fun (r_1 : Int32) => if r_1 = 0 then (some (0 : Int32)) else (bd1 (X_isIn x2 x1) (fun (r_3 : Int32) => if r_3 = 0 then (some (0 : Int32)) else (bnd (x1 + (1 : Int32)) (fun (x3_5 : Int32) => C_isTop_L22 FU x1 x2 x3_5 csi cfa)))))
set_option maxHeartbeats 4000000 in
set_option maxRecDepth 100000 in
theorem bC_isTop_e {Ac : Nat → Nat} {csw : Int32} {cca : Int32} {csi : Int32} {cab : Int32} {cun : Int32} {csg : Int32} {cfa : Nat → Int32} {che : Nat → Int32} {cst : Nat → Int32} {r0 : Int32} {x1 : Int32} {x2 : Int32} (X : Cx Γ p s m args meth c RX1 cX1_isTop 4 (some .boolean) w0) (hf : C_isTop x1 x2 csi cfa = some r0) (Y : Wd Γ w0 s (WC Γ Ac csw cca csi cab cun csg cfa che cst) H locs) (hl : lv_has ls 4 [(0, .ref (Ac 0)), (1, .int x1), (2, .int x2)]) : W p l e rmC_isTop s m args below meth c H locs 0 0 (EI Γ below args s w0 (WC Γ Ac csw cca csi cab cun csg cfa che cst) r0) (F0 m 0 ls []) := by
  have hx := X.1
  have hb := X.2.1
  refine lv_aload_n hx hb dX1_isTop_0 rfl (lv_at hl 0 rfl) ?_
  refine lv_iload_n hx hb dX1_isTop_1 rfl (lv_at hl 1 rfl) ?_
  obtain ⟨r_1, ho_7, hf⟩ := bd1_some hf
  refine t_i Y (bkS Y) (r_V (As := [.int x1]) (rest := []) X (c_preS X Y) (cC_has ho_7) (cwX1_46 X (by decide)) (va_recv X.K Y.1 (q := (RX1, TX1, 9)) (q0 := 0) (ci := 1) rfl rfl) rfl hl.1 (Nat.le_of_ble_eq_true rfl) rfl dX1_isTop_2 ⟨Nat.zero_le _, Nat.zero_le _⟩) (fun H locs Y => ?_)
  refine lv_if_eq (tgt := 16) hx hb dX1_isTop_5 (by decide) (fun c_2 => ?_) (fun c_2 => ?_)
  · have hf := ite_t hf c_2
    refine lv_iconst (v := (0 : Int32)) hx hb dX1_isTop_16 (by decide) ?_
    have e90 := Option.some.inj hf
    subst e90
    exact x_zret X Y rfl dX1_isTop_17
  · have hf := ite_f hf c_2
    refine lv_iload_n hx hb dX1_isTop_8 rfl (lv_at hl 2 rfl) ?_
    refine lv_iload_n hx hb dX1_isTop_9 rfl (lv_at hl 1 rfl) ?_
    obtain ⟨r_3, ho_6, hf⟩ := bd1_some hf
    refine t_i Y (bk0 Y) (r_SN (As := [.int x2, .int x1]) (rest := []) X (c_pre0 X Y) (cX_isIn ho_6) (cwX1_54 X (by decide)) rfl hl.1 (Nat.le_of_ble_eq_true rfl) rfl dX1_isTop_10 ⟨Nat.zero_le _, Nat.zero_le _⟩) (fun H locs Y => ?_)
    refine lv_if_ne (tgt := 18) hx hb dX1_isTop_13 (by decide) (fun c_4 => ?_) (fun c_4 => ?_)
    · have hf := ite_f hf c_4
      refine lv_iload_n hx hb dX1_isTop_18 rfl (lv_at hl 1 rfl) ?_
      refine lv_iconst (v := (1 : Int32)) hx hb dX1_isTop_19 (by decide) ?_
      refine lv_iadd hx hb dX1_isTop_20 ?_
      refine lv_topi (fun x3_5 e_x3_5 => ?_)
      have hf := bnd_eq hf e_x3_5
      refine lv_istore_n (lv' := [(3, .int x3_5), (0, .ref (Ac 0)), (1, .int x1), (2, .int x2)]) hx hb dX1_isTop_21 rfl hl (by decide) rfl (fun ls hl => ?_)
      exact lC_isTop_22 X _ _ _ _ _ _ hf _ _ _ Y (lv_sub hl [1, 2, 3, 0] rfl)
    · have hf := ite_t hf c_4
      refine lv_iconst (v := (0 : Int32)) hx hb dX1_isTop_16 (by decide) ?_
      have e90 := Option.some.inj hf
      subst e90
      exact x_zret X Y rfl dX1_isTop_17
theorem cC_isTop {l : Launch} {Γ : Gm} {Ac : Nat → Nat} {csw : Int32} {cca : Int32} {csi : Int32} {cab : Int32} {cun : Int32} {csg : Int32} {cfa : Nat → Int32} {che : Nat → Int32} {cst : Nat → Int32} {r0 : Int32} {x1 : Int32} {x2 : Int32} (h : C_isTop x1 x2 csi cfa = some r0) : CI l Γ yX1_isTop (Cond.code yX1_isTop cX1_isTop 4 (some .boolean) :: GW) rmC_isTop [.ref (Ac 0), .int x1, .int x2] (WC Γ Ac csw cca csi cab cun csg cfa che cst) (WC Γ Ac csw cca csi cab cun csg cfa che cst) r0 := ofBody (Qc := QcI Γ _ _ r0) (by decide) (Nat.le_of_ble_eq_true rfl) (fun p e s m below meth c ls _ X Y hl => bC_isTop_e X h Y hl)
theorem dmX1_isTopV : yX1_isTop.cls = RX1 ∧ yX1_isTop.cls ≠ "java/lang/invoke/MethodHandle" ∧ yX1_isTop.cls ≠ "java/lang/invoke/VarHandle" ∧ (parseMethodDescriptor yX1_isTop.desc).map (fun d => d.parameters.length) = some 2 := by decide +kernel
theorem cwX1_62 (X : Cx Γ p s m args meth c RX1 cc nL ret w0) (hR : rmC_isTop.frames + 1 ≤ R.frames ∧ 8 + (4 + 11) + rmC_isTop.locals ≤ R.locals) : CallW R s args RX1 RX1 62 yX1_isTop cX1_isTop 4 (some .boolean) (Cond.code yX1_isTop cX1_isTop 4 (some .boolean) :: GW) rmC_isTop 0 0 2 := cw_V X kw248 kw249 kw250 kw228 kw251 dmX1_isTopV rfl rfl hR
def rmC_firstTop : Room := { frames := 3, cells := 0, slots := 0, locals := 67 }
def C_firstTop_2 (rc2 : Int32 → Int32 → Int32 → Int32 → (Nat → Int32) → Option (Int32)) (x1 : Int32) (x2 : Int32) (x3 : Int32) (csi : Int32) (cfa : Nat → Int32) : Option (Int32) := if csi ≤ x3 then (some (-1 : Int32)) else (bd1 (X_isIn x1 x3) (fun (r_2 : Int32) => if r_2 = 0 then (bnd (x3 + (1 : Int32)) (fun (x3_4 : Int32) => rc2 x1 x2 x3_4 csi cfa)) else (bd1 (C_isTop x3 x2 csi cfa) (fun (r_5 : Int32) => if r_5 = 0 then (bnd (x3 + (1 : Int32)) (fun (x3_7 : Int32) => rc2 x1 x2 x3_7 csi cfa)) else (some x3)))))
set_option maxHeartbeats 4000000 in
set_option maxRecDepth 100000 in
theorem bC_firstTop_2 {Ac : Nat → Nat} {csw : Int32} {cca : Int32} {csi : Int32} {cab : Int32} {cun : Int32} {csg : Int32} {cfa : Nat → Int32} {che : Nat → Int32} {cst : Nat → Int32} {r0 : Int32} {x1 : Int32} {x2 : Int32} {x3 : Int32} {rc2 : Int32 → Int32 → Int32 → Int32 → (Nat → Int32) → Option (Int32)} (X : Cx Γ p s m args meth c RX1 cX1_firstTop 4 (some .int) w0) (h2 : ∀ (x1 : Int32) (x2 : Int32) (x3 : Int32) (csi : Int32) (cfa : Nat → Int32), rc2 x1 x2 x3 csi cfa = some r0 → ∀ (H : Heap) (locs : List Loc) (ls : Array Slot), Wd Γ w0 s (WC Γ Ac csw cca csi cab cun csg cfa che cst) H locs → lv_has ls 4 [(0, .ref (Ac 0)), (1, .int x1), (2, .int x2), (3, .int x3)] → W p l e rmC_firstTop s m args below meth c H locs 0 0 (EI Γ below args s w0 (WC Γ Ac csw cca csi cab cun csg cfa che cst) r0) (F0 m 2 ls [])) (hf : C_firstTop_2 rc2 x1 x2 x3 csi cfa = some r0) (Y : Wd Γ w0 s (WC Γ Ac csw cca csi cab cun csg cfa che cst) H locs) (hl : lv_has ls 4 [(0, .ref (Ac 0)), (1, .int x1), (2, .int x2), (3, .int x3)]) : W p l e rmC_firstTop s m args below meth c H locs 0 0 (EI Γ below args s w0 (WC Γ Ac csw cca csi cab cun csg cfa che cst) r0) (F0 m 2 ls []) := by
  have hx := X.1
  have hb := X.2.1
  refine lv_iload_n hx hb dX1_firstTop_2 rfl (lv_at hl 3 rfl) ?_
  refine lv_aload_n hx hb dX1_firstTop_3 rfl (lv_at hl 0 rfl) ?_
  refine gfX1_28 X Y (v := .int csi) 0 rfl rfl dX1_firstTop_4 ?_
  refine lv_icmp_ge (tgt := 35) hx hb dX1_firstTop_7 (by decide) (fun c_1 => ?_) (fun c_1 => ?_)
  · have hf := ite_t hf c_1
    refine lv_iconst (v := (-1 : Int32)) hx hb dX1_firstTop_35 (by decide) ?_
    have e90 := Option.some.inj hf
    subst e90
    exact x_iret X Y dX1_firstTop_36
  · have hf := ite_f hf c_1
    refine lv_iload_n hx hb dX1_firstTop_10 rfl (lv_at hl 1 rfl) ?_
    refine lv_iload_n hx hb dX1_firstTop_11 rfl (lv_at hl 3 rfl) ?_
    obtain ⟨r_2, ho_9, hf⟩ := bd1_some hf
    refine t_i Y (bk0 Y) (r_SN (As := [.int x1, .int x3]) (rest := []) X (c_pre0 X Y) (cX_isIn ho_9) (cwX1_54 X (by decide)) rfl hl.1 (Nat.le_of_ble_eq_true rfl) rfl dX1_firstTop_12 ⟨Nat.zero_le _, Nat.zero_le _⟩) (fun H locs Y => ?_)
    refine lv_if_eq (tgt := 29) hx hb dX1_firstTop_15 (by decide) (fun c_3 => ?_) (fun c_3 => ?_)
    · have hf := ite_t hf c_3
      obtain ⟨x3_4, e_x3_4⟩ : ∃ z : Int32, z = (x3 + (1 : Int32)) := ⟨_, rfl⟩
      have hf := bnd_eq hf e_x3_4
      refine lv_iinc (v := x3_4) (lv' := [(3, .int x3_4), (0, .ref (Ac 0)), (1, .int x1), (2, .int x2)]) hx hb dX1_firstTop_29 hl (k := 3) rfl (by rw [e_x3_4]; rfl) (by decide) rfl (fun ls hl => ?_)
      refine lv_goto (tgt := 2) hx hb dX1_firstTop_32 (by decide) ?_
      exact h2 _ _ _ _ _ hf _ _ _ Y (lv_sub hl [1, 2, 3, 0] rfl)
    · have hf := ite_f hf c_3
      refine lv_aload_n hx hb dX1_firstTop_18 rfl (lv_at hl 0 rfl) ?_
      refine lv_iload_n hx hb dX1_firstTop_19 rfl (lv_at hl 3 rfl) ?_
      refine lv_iload_n hx hb dX1_firstTop_20 rfl (lv_at hl 2 rfl) ?_
      obtain ⟨r_5, ho_8, hf⟩ := bd1_some hf
      refine t_i Y (bkS Y) (r_V (As := [.int x3, .int x2]) (rest := []) X (c_preS X Y) (cC_isTop ho_8) (cwX1_62 X (by decide)) (va_recv X.K Y.1 (q := (RX1, TX1, 9)) (q0 := 0) (ci := 1) rfl rfl) rfl hl.1 (Nat.le_of_ble_eq_true rfl) rfl dX1_firstTop_21 ⟨Nat.zero_le _, Nat.zero_le _⟩) (fun H locs Y => ?_)
      refine lv_if_eq (tgt := 29) hx hb dX1_firstTop_24 (by decide) (fun c_6 => ?_) (fun c_6 => ?_)
      · have hf := ite_t hf c_6
        obtain ⟨x3_7, e_x3_7⟩ : ∃ z : Int32, z = (x3 + (1 : Int32)) := ⟨_, rfl⟩
        have hf := bnd_eq hf e_x3_7
        refine lv_iinc (v := x3_7) (lv' := [(3, .int x3_7), (0, .ref (Ac 0)), (1, .int x1), (2, .int x2)]) hx hb dX1_firstTop_29 hl (k := 3) rfl (by rw [e_x3_7]; rfl) (by decide) rfl (fun ls hl => ?_)
        refine lv_goto (tgt := 2) hx hb dX1_firstTop_32 (by decide) ?_
        exact h2 _ _ _ _ _ hf _ _ _ Y (lv_sub hl [1, 2, 3, 0] rfl)
      · have hf := ite_f hf c_6
        refine lv_iload_n hx hb dX1_firstTop_27 rfl (lv_at hl 3 rfl) ?_
        have e90 := Option.some.inj hf
        subst e90
        exact x_iret X Y dX1_firstTop_28
def C_firstTop_L2 : Nat → Int32 → Int32 → Int32 → Int32 → (Nat → Int32) → Option (Int32)
  | 0, _, _, _, _, _ => none
  | n + 1, x1, x2, x3, csi, cfa => C_firstTop_2 (C_firstTop_L2 n) x1 x2 x3 csi cfa
theorem lC_firstTop_2 {Ac : Nat → Nat} {csw : Int32} {cca : Int32} {cab : Int32} {cun : Int32} {csg : Int32} {che : Nat → Int32} {cst : Nat → Int32} {r0 : Int32} (X : Cx Γ p s m args meth c RX1 cX1_firstTop 4 (some .int) w0) : ∀ (n : Nat) (x1 : Int32) (x2 : Int32) (x3 : Int32) (csi : Int32) (cfa : Nat → Int32), C_firstTop_L2 n x1 x2 x3 csi cfa = some r0 → ∀ (H : Heap) (locs : List Loc) (ls : Array Slot), Wd Γ w0 s (WC Γ Ac csw cca csi cab cun csg cfa che cst) H locs → lv_has ls 4 [(0, .ref (Ac 0)), (1, .int x1), (2, .int x2), (3, .int x3)] → W p l e rmC_firstTop s m args below meth c H locs 0 0 (EI Γ below args s w0 (WC Γ Ac csw cca csi cab cun csg cfa che cst) r0) (F0 m 2 ls []) := by
  intro n
  induction n with
  | zero => intro x1 x2 x3 csi cfa hf; cases hf
  | succ n ih => intro x1 x2 x3 csi cfa hf H locs ls Y hl; exact bC_firstTop_2 X ih hf Y hl
def C_firstTop (x1 : Int32) (x2 : Int32) (csi : Int32) (cfa : Nat → Int32) : Option (Int32) := C_firstTop_L2 FU x1 x2 (0 : Int32) csi cfa
set_option maxHeartbeats 4000000 in
set_option maxRecDepth 100000 in
theorem bC_firstTop_e {Ac : Nat → Nat} {csw : Int32} {cca : Int32} {csi : Int32} {cab : Int32} {cun : Int32} {csg : Int32} {cfa : Nat → Int32} {che : Nat → Int32} {cst : Nat → Int32} {r0 : Int32} {x1 : Int32} {x2 : Int32} (X : Cx Γ p s m args meth c RX1 cX1_firstTop 4 (some .int) w0) (hf : C_firstTop x1 x2 csi cfa = some r0) (Y : Wd Γ w0 s (WC Γ Ac csw cca csi cab cun csg cfa che cst) H locs) (hl : lv_has ls 4 [(0, .ref (Ac 0)), (1, .int x1), (2, .int x2)]) : W p l e rmC_firstTop s m args below meth c H locs 0 0 (EI Γ below args s w0 (WC Γ Ac csw cca csi cab cun csg cfa che cst) r0) (F0 m 0 ls []) := by
  have hx := X.1
  have hb := X.2.1
  refine lv_iconst (v := (0 : Int32)) hx hb dX1_firstTop_0 (by decide) ?_
  refine lv_istore_n (lv' := [(3, .int (0 : Int32)), (0, .ref (Ac 0)), (1, .int x1), (2, .int x2)]) hx hb dX1_firstTop_1 rfl hl (by decide) rfl (fun ls hl => ?_)
  exact lC_firstTop_2 X _ _ _ _ _ _ hf _ _ _ Y (lv_sub hl [1, 2, 3, 0] rfl)
theorem cC_firstTop {l : Launch} {Γ : Gm} {Ac : Nat → Nat} {csw : Int32} {cca : Int32} {csi : Int32} {cab : Int32} {cun : Int32} {csg : Int32} {cfa : Nat → Int32} {che : Nat → Int32} {cst : Nat → Int32} {r0 : Int32} {x1 : Int32} {x2 : Int32} (h : C_firstTop x1 x2 csi cfa = some r0) : CI l Γ yX1_firstTop (Cond.code yX1_firstTop cX1_firstTop 4 (some .int) :: GW) rmC_firstTop [.ref (Ac 0), .int x1, .int x2] (WC Γ Ac csw cca csi cab cun csg cfa che cst) (WC Γ Ac csw cca csi cab cun csg cfa che cst) r0 := ofBody (Qc := QcI Γ _ _ r0) (by decide) (Nat.le_of_ble_eq_true rfl) (fun p e s m below meth c ls _ X Y hl => bC_firstTop_e X h Y hl)
def rmC_total : Room := { frames := 2, cells := 0, slots := 0, locals := 44 }
def C_total_5 (rc5 : Int32 → Int32 → Int32 → Int32 → Int32 → (Nat → Int32) → Option (Int32)) (x1 : Int32) (x2 : Int32) (x3 : Int32) (x4 : Int32) (csi : Int32) (cfa : Nat → Int32) : Option (Int32) := if csi ≤ x4 then (some x3) else (bd1 (X_isIn x1 x4) (fun (r_2 : Int32) => if r_2 = 0 then (bnd (x4 + (1 : Int32)) (fun (x4_4 : Int32) => rc5 x1 x2 x3 x4_4 csi cfa)) else (bd1 (C_fact x4 x2 csi cfa) (fun (r_5 : Int32) => bnd (x3 + r_5) (fun (x3_6 : Int32) => bnd (x4 + (1 : Int32)) (fun (x4_7 : Int32) => rc5 x1 x2 x3_6 x4_7 csi cfa))))))
set_option maxHeartbeats 4000000 in
set_option maxRecDepth 100000 in
theorem bC_total_5 {Ac : Nat → Nat} {csw : Int32} {cca : Int32} {csi : Int32} {cab : Int32} {cun : Int32} {csg : Int32} {cfa : Nat → Int32} {che : Nat → Int32} {cst : Nat → Int32} {r0 : Int32} {x1 : Int32} {x2 : Int32} {x3 : Int32} {x4 : Int32} {rc5 : Int32 → Int32 → Int32 → Int32 → Int32 → (Nat → Int32) → Option (Int32)} (X : Cx Γ p s m args meth c RX1 cX1_total 5 (some .int) w0) (h5 : ∀ (x1 : Int32) (x2 : Int32) (x3 : Int32) (x4 : Int32) (csi : Int32) (cfa : Nat → Int32), rc5 x1 x2 x3 x4 csi cfa = some r0 → ∀ (H : Heap) (locs : List Loc) (ls : Array Slot), Wd Γ w0 s (WC Γ Ac csw cca csi cab cun csg cfa che cst) H locs → lv_has ls 5 [(0, .ref (Ac 0)), (1, .int x1), (2, .int x2), (3, .int x3), (4, .int x4)] → W p l e rmC_total s m args below meth c H locs 0 0 (EI Γ below args s w0 (WC Γ Ac csw cca csi cab cun csg cfa che cst) r0) (F0 m 5 ls [])) (hf : C_total_5 rc5 x1 x2 x3 x4 csi cfa = some r0) (Y : Wd Γ w0 s (WC Γ Ac csw cca csi cab cun csg cfa che cst) H locs) (hl : lv_has ls 5 [(0, .ref (Ac 0)), (1, .int x1), (2, .int x2), (3, .int x3), (4, .int x4)]) : W p l e rmC_total s m args below meth c H locs 0 0 (EI Γ below args s w0 (WC Γ Ac csw cca csi cab cun csg cfa che cst) r0) (F0 m 5 ls []) := by
  have hx := X.1
  have hb := X.2.1
  refine lv_iload hx hb dX1_total_5 (lv_at hl 4 rfl) ?_
  refine lv_aload_n hx hb dX1_total_7 rfl (lv_at hl 0 rfl) ?_
  refine gfX1_28 X Y (v := .int csi) 0 rfl rfl dX1_total_8 ?_
  refine lv_icmp_ge (tgt := 39) hx hb dX1_total_11 (by decide) (fun c_1 => ?_) (fun c_1 => ?_)
  · have hf := ite_t hf c_1
    refine lv_iload_n hx hb dX1_total_39 rfl (lv_at hl 3 rfl) ?_
    have e90 := Option.some.inj hf
    subst e90
    exact x_iret X Y dX1_total_40
  · have hf := ite_f hf c_1
    refine lv_iload_n hx hb dX1_total_14 rfl (lv_at hl 1 rfl) ?_
    refine lv_iload hx hb dX1_total_15 (lv_at hl 4 rfl) ?_
    obtain ⟨r_2, ho_9, hf⟩ := bd1_some hf
    refine t_i Y (bk0 Y) (r_SN (As := [.int x1, .int x4]) (rest := []) X (c_pre0 X Y) (cX_isIn ho_9) (cwX1_54 X (by decide)) rfl hl.1 (Nat.le_of_ble_eq_true rfl) rfl dX1_total_17 ⟨Nat.zero_le _, Nat.zero_le _⟩) (fun H locs Y => ?_)
    refine lv_if_eq (tgt := 33) hx hb dX1_total_20 (by decide) (fun c_3 => ?_) (fun c_3 => ?_)
    · have hf := ite_t hf c_3
      obtain ⟨x4_4, e_x4_4⟩ : ∃ z : Int32, z = (x4 + (1 : Int32)) := ⟨_, rfl⟩
      have hf := bnd_eq hf e_x4_4
      refine lv_iinc (v := x4_4) (lv' := [(4, .int x4_4), (0, .ref (Ac 0)), (1, .int x1), (2, .int x2), (3, .int x3)]) hx hb dX1_total_33 hl (k := 4) rfl (by rw [e_x4_4]; rfl) (by decide) rfl (fun ls hl => ?_)
      refine lv_goto (tgt := 5) hx hb dX1_total_36 (by decide) ?_
      exact h5 _ _ _ _ _ _ hf _ _ _ Y (lv_sub hl [1, 2, 3, 4, 0] rfl)
    · have hf := ite_f hf c_3
      refine lv_iload_n hx hb dX1_total_23 rfl (lv_at hl 3 rfl) ?_
      refine lv_aload_n hx hb dX1_total_24 rfl (lv_at hl 0 rfl) ?_
      refine lv_iload hx hb dX1_total_25 (lv_at hl 4 rfl) ?_
      refine lv_iload_n hx hb dX1_total_27 rfl (lv_at hl 2 rfl) ?_
      obtain ⟨r_5, ho_8, hf⟩ := bd1_some hf
      refine t_i Y (bkS Y) (r_V (As := [.int x4, .int x2]) (rest := [.int x3]) X (c_preS X Y) (cC_fact ho_8) (cwX1_58 X (by decide)) (va_recv X.K Y.1 (q := (RX1, TX1, 9)) (q0 := 0) (ci := 1) rfl rfl) rfl hl.1 (Nat.le_of_ble_eq_true rfl) rfl dX1_total_28 ⟨Nat.zero_le _, Nat.zero_le _⟩) (fun H locs Y => ?_)
      refine lv_iadd hx hb dX1_total_31 ?_
      refine lv_topi (fun x3_6 e_x3_6 => ?_)
      have hf := bnd_eq hf e_x3_6
      refine lv_istore_n (lv' := [(3, .int x3_6), (0, .ref (Ac 0)), (1, .int x1), (2, .int x2), (4, .int x4)]) hx hb dX1_total_32 rfl hl (by decide) rfl (fun ls hl => ?_)
      obtain ⟨x4_7, e_x4_7⟩ : ∃ z : Int32, z = (x4 + (1 : Int32)) := ⟨_, rfl⟩
      have hf := bnd_eq hf e_x4_7
      refine lv_iinc (v := x4_7) (lv' := [(4, .int x4_7), (3, .int x3_6), (0, .ref (Ac 0)), (1, .int x1), (2, .int x2)]) hx hb dX1_total_33 hl (k := 4) rfl (by rw [e_x4_7]; rfl) (by decide) rfl (fun ls hl => ?_)
      refine lv_goto (tgt := 5) hx hb dX1_total_36 (by decide) ?_
      exact h5 _ _ _ _ _ _ hf _ _ _ Y (lv_sub hl [2, 3, 4, 1, 0] rfl)
def C_total_L5 : Nat → Int32 → Int32 → Int32 → Int32 → Int32 → (Nat → Int32) → Option (Int32)
  | 0, _, _, _, _, _, _ => none
  | n + 1, x1, x2, x3, x4, csi, cfa => C_total_5 (C_total_L5 n) x1 x2 x3 x4 csi cfa
theorem lC_total_5 {Ac : Nat → Nat} {csw : Int32} {cca : Int32} {cab : Int32} {cun : Int32} {csg : Int32} {che : Nat → Int32} {cst : Nat → Int32} {r0 : Int32} (X : Cx Γ p s m args meth c RX1 cX1_total 5 (some .int) w0) : ∀ (n : Nat) (x1 : Int32) (x2 : Int32) (x3 : Int32) (x4 : Int32) (csi : Int32) (cfa : Nat → Int32), C_total_L5 n x1 x2 x3 x4 csi cfa = some r0 → ∀ (H : Heap) (locs : List Loc) (ls : Array Slot), Wd Γ w0 s (WC Γ Ac csw cca csi cab cun csg cfa che cst) H locs → lv_has ls 5 [(0, .ref (Ac 0)), (1, .int x1), (2, .int x2), (3, .int x3), (4, .int x4)] → W p l e rmC_total s m args below meth c H locs 0 0 (EI Γ below args s w0 (WC Γ Ac csw cca csi cab cun csg cfa che cst) r0) (F0 m 5 ls []) := by
  intro n
  induction n with
  | zero => intro x1 x2 x3 x4 csi cfa hf; cases hf
  | succ n ih => intro x1 x2 x3 x4 csi cfa hf H locs ls Y hl; exact bC_total_5 X ih hf Y hl
def C_total (x1 : Int32) (x2 : Int32) (csi : Int32) (cfa : Nat → Int32) : Option (Int32) := C_total_L5 FU x1 x2 (0 : Int32) (0 : Int32) csi cfa
set_option maxHeartbeats 4000000 in
set_option maxRecDepth 100000 in
theorem bC_total_e {Ac : Nat → Nat} {csw : Int32} {cca : Int32} {csi : Int32} {cab : Int32} {cun : Int32} {csg : Int32} {cfa : Nat → Int32} {che : Nat → Int32} {cst : Nat → Int32} {r0 : Int32} {x1 : Int32} {x2 : Int32} (X : Cx Γ p s m args meth c RX1 cX1_total 5 (some .int) w0) (hf : C_total x1 x2 csi cfa = some r0) (Y : Wd Γ w0 s (WC Γ Ac csw cca csi cab cun csg cfa che cst) H locs) (hl : lv_has ls 5 [(0, .ref (Ac 0)), (1, .int x1), (2, .int x2)]) : W p l e rmC_total s m args below meth c H locs 0 0 (EI Γ below args s w0 (WC Γ Ac csw cca csi cab cun csg cfa che cst) r0) (F0 m 0 ls []) := by
  have hx := X.1
  have hb := X.2.1
  refine lv_iconst (v := (0 : Int32)) hx hb dX1_total_0 (by decide) ?_
  refine lv_istore_n (lv' := [(3, .int (0 : Int32)), (0, .ref (Ac 0)), (1, .int x1), (2, .int x2)]) hx hb dX1_total_1 rfl hl (by decide) rfl (fun ls hl => ?_)
  refine lv_iconst (v := (0 : Int32)) hx hb dX1_total_2 (by decide) ?_
  refine lv_istore (lv' := [(4, .int (0 : Int32)), (3, .int (0 : Int32)), (0, .ref (Ac 0)), (1, .int x1), (2, .int x2)]) hx hb dX1_total_3 hl (by decide) rfl (fun ls hl => ?_)
  exact lC_total_5 X _ _ _ _ _ _ _ hf _ _ _ Y (lv_sub hl [2, 3, 4, 1, 0] rfl)
theorem cC_total {l : Launch} {Γ : Gm} {Ac : Nat → Nat} {csw : Int32} {cca : Int32} {csi : Int32} {cab : Int32} {cun : Int32} {csg : Int32} {cfa : Nat → Int32} {che : Nat → Int32} {cst : Nat → Int32} {r0 : Int32} {x1 : Int32} {x2 : Int32} (h : C_total x1 x2 csi cfa = some r0) : CI l Γ yX1_total (Cond.code yX1_total cX1_total 5 (some .int) :: GW) rmC_total [.ref (Ac 0), .int x1, .int x2] (WC Γ Ac csw cca csi cab cun csg cfa che cst) (WC Γ Ac csw cca csi cab cun csg cfa che cst) r0 := ofBody (Qc := QcI Γ _ _ r0) (by decide) (Nat.le_of_ble_eq_true rfl) (fun p e s m below meth c ls _ X Y hl => bC_total_e X h Y hl)
theorem dmX1_totalV : yX1_total.cls = RX1 ∧ yX1_total.cls ≠ "java/lang/invoke/MethodHandle" ∧ yX1_total.cls ≠ "java/lang/invoke/VarHandle" ∧ (parseMethodDescriptor yX1_total.desc).map (fun d => d.parameters.length) = some 2 := by decide +kernel
theorem cwX1_65 (X : Cx Γ p s m args meth c RX1 cc nL ret w0) (hR : rmC_total.frames + 1 ≤ R.frames ∧ 8 + (5 + 11) + rmC_total.locals ≤ R.locals) : CallW R s args RX1 RX1 65 yX1_total cX1_total 5 (some .int) (Cond.code yX1_total cX1_total 5 (some .int) :: GW) rmC_total 0 0 2 := cw_V X kw252 kw253 kw254 kw228 kw255 dmX1_totalV rfl rfl hR
def rmC_outlives : Room := { frames := 3, cells := 0, slots := 0, locals := 68 }
def C_outlives (x1 : Int32) (x2 : Int32) (cca : Int32) (csi : Int32) (cfa : Nat → Int32) : Option (Int32) := bd1 (C_total x2 (3 : Int32) csi cfa) (fun (r_1 : Int32) => if (cca - x1) < r_1 then (some (0 : Int32)) else (some (1 : Int32)))
set_option maxHeartbeats 4000000 in
set_option maxRecDepth 100000 in
theorem bC_outlives_e {Ac : Nat → Nat} {csw : Int32} {cca : Int32} {csi : Int32} {cab : Int32} {cun : Int32} {csg : Int32} {cfa : Nat → Int32} {che : Nat → Int32} {cst : Nat → Int32} {r0 : Int32} {x1 : Int32} {x2 : Int32} (X : Cx Γ p s m args meth c RX1 cX1_outlives 3 (some .boolean) w0) (hf : C_outlives x1 x2 cca csi cfa = some r0) (Y : Wd Γ w0 s (WC Γ Ac csw cca csi cab cun csg cfa che cst) H locs) (hl : lv_has ls 3 [(0, .ref (Ac 0)), (1, .int x1), (2, .int x2)]) : W p l e rmC_outlives s m args below meth c H locs 0 0 (EI Γ below args s w0 (WC Γ Ac csw cca csi cab cun csg cfa che cst) r0) (F0 m 0 ls []) := by
  have hx := X.1
  have hb := X.2.1
  refine lv_aload_n hx hb dX1_outlives_0 rfl (lv_at hl 0 rfl) ?_
  refine lv_iload_n hx hb dX1_outlives_1 rfl (lv_at hl 2 rfl) ?_
  refine lv_iconst (v := (3 : Int32)) hx hb dX1_outlives_2 (by decide) ?_
  obtain ⟨r_1, ho_3, hf⟩ := bd1_some hf
  refine t_i Y (bkS Y) (r_V (As := [.int x2, .int (3 : Int32)]) (rest := []) X (c_preS X Y) (cC_total ho_3) (cwX1_65 X (by decide)) (va_recv X.K Y.1 (q := (RX1, TX1, 9)) (q0 := 0) (ci := 1) rfl rfl) rfl hl.1 (Nat.le_of_ble_eq_true rfl) rfl dX1_outlives_3 ⟨Nat.zero_le _, Nat.zero_le _⟩) (fun H locs Y => ?_)
  refine lv_aload_n hx hb dX1_outlives_6 rfl (lv_at hl 0 rfl) ?_
  refine gfX1_15 X Y (v := .int cca) 0 rfl rfl dX1_outlives_7 ?_
  refine lv_iload_n hx hb dX1_outlives_10 rfl (lv_at hl 1 rfl) ?_
  refine lv_isub hx hb dX1_outlives_11 ?_
  refine lv_icmp_gt (tgt := 19) hx hb dX1_outlives_12 (by decide) (fun c_2 => ?_) (fun c_2 => ?_)
  · have hf := ite_t hf c_2
    refine lv_iconst (v := (0 : Int32)) hx hb dX1_outlives_19 (by decide) ?_
    have e90 := Option.some.inj hf
    subst e90
    exact x_zret X Y rfl dX1_outlives_20
  · have hf := ite_f hf c_2
    refine lv_iconst (v := (1 : Int32)) hx hb dX1_outlives_15 (by decide) ?_
    refine lv_goto (tgt := 20) hx hb dX1_outlives_16 (by decide) ?_
    have e90 := Option.some.inj hf
    subst e90
    exact x_zret X Y rfl dX1_outlives_20
theorem cC_outlives {l : Launch} {Γ : Gm} {Ac : Nat → Nat} {csw : Int32} {cca : Int32} {csi : Int32} {cab : Int32} {cun : Int32} {csg : Int32} {cfa : Nat → Int32} {che : Nat → Int32} {cst : Nat → Int32} {r0 : Int32} {x1 : Int32} {x2 : Int32} (h : C_outlives x1 x2 cca csi cfa = some r0) : CI l Γ yX1_outlives (Cond.code yX1_outlives cX1_outlives 3 (some .boolean) :: GW) rmC_outlives [.ref (Ac 0), .int x1, .int x2] (WC Γ Ac csw cca csi cab cun csg cfa che cst) (WC Γ Ac csw cca csi cab cun csg cfa che cst) r0 := ofBody (Qc := QcI Γ _ _ r0) (by decide) (Nat.le_of_ble_eq_true rfl) (fun p e s m below meth c ls _ X Y hl => bC_outlives_e X h Y hl)
def rmC_gone : Room := { frames := 0, cells := 0, slots := 0, locals := 0 }
def C_gone (csi : Int32) (cab : Int32) : Option (Int32) := some ((((1 : Int32) <<< (csi &&& 31)) - (1 : Int32)) &&& (cab ^^^ (-1 : Int32)))
set_option maxHeartbeats 4000000 in
set_option maxRecDepth 100000 in
theorem bC_gone_e {Ac : Nat → Nat} {csw : Int32} {cca : Int32} {csi : Int32} {cab : Int32} {cun : Int32} {csg : Int32} {cfa : Nat → Int32} {che : Nat → Int32} {cst : Nat → Int32} {r0 : Int32} (X : Cx Γ p s m args meth c RX1 cX1_gone 1 (some .int) w0) (hf : C_gone csi cab = some r0) (Y : Wd Γ w0 s (WC Γ Ac csw cca csi cab cun csg cfa che cst) H locs) (hl : lv_has ls 1 [(0, .ref (Ac 0))]) : W p l e rmC_gone s m args below meth c H locs 0 0 (EI Γ below args s w0 (WC Γ Ac csw cca csi cab cun csg cfa che cst) r0) (F0 m 0 ls []) := by
  have hx := X.1
  have hb := X.2.1
  refine lv_iconst (v := (1 : Int32)) hx hb dX1_gone_0 (by decide) ?_
  refine lv_aload_n hx hb dX1_gone_1 rfl (lv_at hl 0 rfl) ?_
  refine gfX1_28 X Y (v := .int csi) 0 rfl rfl dX1_gone_2 ?_
  refine lv_ishl hx hb dX1_gone_5 ?_
  refine lv_iconst (v := (1 : Int32)) hx hb dX1_gone_6 (by decide) ?_
  refine lv_isub hx hb dX1_gone_7 ?_
  refine lv_aload_n hx hb dX1_gone_8 rfl (lv_at hl 0 rfl) ?_
  refine gfX1_31 X Y (v := .int cab) 0 rfl rfl dX1_gone_9 ?_
  refine lv_iconst (v := (-1 : Int32)) hx hb dX1_gone_12 (by decide) ?_
  refine lv_ixor hx hb dX1_gone_13 ?_
  refine lv_iand hx hb dX1_gone_14 ?_
  have e90 := Option.some.inj hf
  subst e90
  exact x_iret X Y dX1_gone_15
theorem cC_gone {l : Launch} {Γ : Gm} {Ac : Nat → Nat} {csw : Int32} {cca : Int32} {csi : Int32} {cab : Int32} {cun : Int32} {csg : Int32} {cfa : Nat → Int32} {che : Nat → Int32} {cst : Nat → Int32} {r0 : Int32} (h : C_gone csi cab = some r0) : CI l Γ yX1_gone (Cond.code yX1_gone cX1_gone 1 (some .int) :: GW) rmC_gone [.ref (Ac 0)] (WC Γ Ac csw cca csi cab cun csg cfa che cst) (WC Γ Ac csw cca csi cab cun csg cfa che cst) r0 := ofBody (Qc := QcI Γ _ _ r0) (by decide) (Nat.le_of_ble_eq_true rfl) (fun p e s m below meth c ls _ X Y hl => bC_gone_e X h Y hl)
theorem dmX1_sightedV : yX1_sighted.cls = RX1 ∧ yX1_sighted.cls ≠ "java/lang/invoke/MethodHandle" ∧ yX1_sighted.cls ≠ "java/lang/invoke/VarHandle" ∧ (parseMethodDescriptor yX1_sighted.desc).map (fun d => d.parameters.length) = some 2 := by decide +kernel
theorem cwX1_75 (X : Cx Γ p s m args meth c RX1 cc nL ret w0) (hR : rmC_sighted.frames + 1 ≤ R.frames ∧ 8 + (3 + 11) + rmC_sighted.locals ≤ R.locals) : CallW R s args RX1 RX1 75 yX1_sighted cX1_sighted 3 (some .int) (Cond.code yX1_sighted cX1_sighted 3 (some .int) :: GW) rmC_sighted 0 0 2 := cw_V X kw256 kw257 kw258 kw228 kw259 dmX1_sightedV rfl rfl hR
def rmC_fitsAll : Room := { frames := 2, cells := 0, slots := 0, locals := 44 }
def C_fitsAll_2 (rc2 : Int32 → Int32 → Int32 → Int32 → (Nat → Int32) → (Nat → Int32) → Option (Int32)) (x1 : Int32) (x2 : Int32) (csi : Int32) (csg : Int32) (cfa : Nat → Int32) (cst : Nat → Int32) : Option (Int32) := if csg ≤ x2 then (some (1 : Int32)) else (bd1 (C_sighted x2 (2 : Int32) csg cst) (fun (r_2 : Int32) => bd1 (C_fact x1 (3 : Int32) csi cfa) (fun (r_3 : Int32) => bd1 (C_sighted x2 (0 : Int32) csg cst) (fun (r_4 : Int32) => if r_3 < r_4 then (some (0 : Int32)) else (bd1 (C_fact x1 (4 : Int32) csi cfa) (fun (r_6 : Int32) => bd1 (C_sighted x2 (1 : Int32) csg cst) (fun (r_7 : Int32) => if r_7 < r_6 then (some (0 : Int32)) else (if r_2 = (3 : Int32) then (bnd (x2 + (1 : Int32)) (fun (x2_10 : Int32) => rc2 x1 x2_10 csi csg cfa cst)) else (bd1 (C_fact x1 (2 : Int32) csi cfa) (fun (r_11 : Int32) => if r_2 = r_11 then (bnd (x2 + (1 : Int32)) (fun (x2_13 : Int32) => rc2 x1 x2_13 csi csg cfa cst)) else (some (0 : Int32))))))))))))
set_option maxHeartbeats 4000000 in
set_option maxRecDepth 100000 in
theorem bC_fitsAll_2 {Ac : Nat → Nat} {csw : Int32} {cca : Int32} {csi : Int32} {cab : Int32} {cun : Int32} {csg : Int32} {cfa : Nat → Int32} {che : Nat → Int32} {cst : Nat → Int32} {r0 : Int32} {x1 : Int32} {x2 : Int32} {rc2 : Int32 → Int32 → Int32 → Int32 → (Nat → Int32) → (Nat → Int32) → Option (Int32)} (X : Cx Γ p s m args meth c RX1 cX1_fitsAll 4 (some .boolean) w0) (h2 : ∀ (x1 : Int32) (x2 : Int32) (csi : Int32) (csg : Int32) (cfa : Nat → Int32) (cst : Nat → Int32), rc2 x1 x2 csi csg cfa cst = some r0 → ∀ (H : Heap) (locs : List Loc) (ls : Array Slot), Wd Γ w0 s (WC Γ Ac csw cca csi cab cun csg cfa che cst) H locs → lv_has ls 4 [(0, .ref (Ac 0)), (1, .int x1), (2, .int x2)] → W p l e rmC_fitsAll s m args below meth c H locs 0 0 (EI Γ below args s w0 (WC Γ Ac csw cca csi cab cun csg cfa che cst) r0) (F0 m 2 ls [])) (hf : C_fitsAll_2 rc2 x1 x2 csi csg cfa cst = some r0) (Y : Wd Γ w0 s (WC Γ Ac csw cca csi cab cun csg cfa che cst) H locs) (hl : lv_has ls 4 [(0, .ref (Ac 0)), (1, .int x1), (2, .int x2)]) : W p l e rmC_fitsAll s m args below meth c H locs 0 0 (EI Γ below args s w0 (WC Γ Ac csw cca csi cab cun csg cfa che cst) r0) (F0 m 2 ls []) := by
  have hx := X.1
  have hb := X.2.1
  refine lv_iload_n hx hb dX1_fitsAll_2 rfl (lv_at hl 2 rfl) ?_
  refine lv_aload_n hx hb dX1_fitsAll_3 rfl (lv_at hl 0 rfl) ?_
  refine gfX1_37 X Y (v := .int csg) 0 rfl rfl dX1_fitsAll_4 ?_
  refine lv_icmp_ge (tgt := 70) hx hb dX1_fitsAll_7 (by decide) (fun c_1 => ?_) (fun c_1 => ?_)
  · have hf := ite_t hf c_1
    refine lv_iconst (v := (1 : Int32)) hx hb dX1_fitsAll_70 (by decide) ?_
    have e90 := Option.some.inj hf
    subst e90
    exact x_zret X Y rfl dX1_fitsAll_71
  · have hf := ite_f hf c_1
    refine lv_aload_n hx hb dX1_fitsAll_10 rfl (lv_at hl 0 rfl) ?_
    refine lv_iload_n hx hb dX1_fitsAll_11 rfl (lv_at hl 2 rfl) ?_
    refine lv_iconst (v := (2 : Int32)) hx hb dX1_fitsAll_12 (by decide) ?_
    obtain ⟨r_2, ho_19, hf⟩ := bd1_some hf
    refine t_i Y (bkS Y) (r_V (As := [.int x2, .int (2 : Int32)]) (rest := []) X (c_preS X Y) (cC_sighted ho_19) (cwX1_75 X (by decide)) (va_recv X.K Y.1 (q := (RX1, TX1, 9)) (q0 := 0) (ci := 1) rfl rfl) rfl hl.1 (Nat.le_of_ble_eq_true rfl) rfl dX1_fitsAll_13 ⟨Nat.zero_le _, Nat.zero_le _⟩) (fun H locs Y => ?_)
    refine lv_istore_n (lv' := [(3, .int r_2), (0, .ref (Ac 0)), (1, .int x1), (2, .int x2)]) hx hb dX1_fitsAll_16 rfl hl (by decide) rfl (fun ls hl => ?_)
    refine lv_aload_n hx hb dX1_fitsAll_17 rfl (lv_at hl 1 rfl) ?_
    refine lv_iload_n hx hb dX1_fitsAll_18 rfl (lv_at hl 2 rfl) ?_
    refine lv_iconst (v := (3 : Int32)) hx hb dX1_fitsAll_19 (by decide) ?_
    obtain ⟨r_3, ho_18, hf⟩ := bd1_some hf
    refine t_i Y (bkS Y) (r_V (As := [.int x1, .int (3 : Int32)]) (rest := []) X (c_preS X Y) (cC_fact ho_18) (cwX1_58 X (by decide)) (va_recv X.K Y.1 (q := (RX1, TX1, 9)) (q0 := 0) (ci := 1) rfl rfl) rfl hl.1 (Nat.le_of_ble_eq_true rfl) rfl dX1_fitsAll_20 ⟨Nat.zero_le _, Nat.zero_le _⟩) (fun H locs Y => ?_)
    refine lv_aload_n hx hb dX1_fitsAll_23 rfl (lv_at hl 1 rfl) ?_
    refine lv_iload_n hx hb dX1_fitsAll_24 rfl (lv_at hl 3 rfl) ?_
    refine lv_iconst (v := (0 : Int32)) hx hb dX1_fitsAll_25 (by decide) ?_
    obtain ⟨r_4, ho_17, hf⟩ := bd1_some hf
    refine t_i Y (bkS Y) (r_V (As := [.int x2, .int (0 : Int32)]) (rest := [.int r_3]) X (c_preS X Y) (cC_sighted ho_17) (cwX1_75 X (by decide)) (va_recv X.K Y.1 (q := (RX1, TX1, 9)) (q0 := 0) (ci := 1) rfl rfl) rfl hl.1 (Nat.le_of_ble_eq_true rfl) rfl dX1_fitsAll_26 ⟨Nat.zero_le _, Nat.zero_le _⟩) (fun H locs Y => ?_)
    refine lv_icmp_lt (tgt := 62) hx hb dX1_fitsAll_29 (by decide) (fun c_5 => ?_) (fun c_5 => ?_)
    · have hf := ite_t hf c_5
      refine lv_iconst (v := (0 : Int32)) hx hb dX1_fitsAll_62 (by decide) ?_
      have e90 := Option.some.inj hf
      subst e90
      exact x_zret X Y rfl dX1_fitsAll_63
    · have hf := ite_f hf c_5
      refine lv_aload_n hx hb dX1_fitsAll_32 rfl (lv_at hl 1 rfl) ?_
      refine lv_iload_n hx hb dX1_fitsAll_33 rfl (lv_at hl 2 rfl) ?_
      refine lv_iconst (v := (4 : Int32)) hx hb dX1_fitsAll_34 (by decide) ?_
      obtain ⟨r_6, ho_16, hf⟩ := bd1_some hf
      refine t_i Y (bkS Y) (r_V (As := [.int x1, .int (4 : Int32)]) (rest := []) X (c_preS X Y) (cC_fact ho_16) (cwX1_58 X (by decide)) (va_recv X.K Y.1 (q := (RX1, TX1, 9)) (q0 := 0) (ci := 1) rfl rfl) rfl hl.1 (Nat.le_of_ble_eq_true rfl) rfl dX1_fitsAll_35 ⟨Nat.zero_le _, Nat.zero_le _⟩) (fun H locs Y => ?_)
      refine lv_aload_n hx hb dX1_fitsAll_38 rfl (lv_at hl 1 rfl) ?_
      refine lv_iload_n hx hb dX1_fitsAll_39 rfl (lv_at hl 3 rfl) ?_
      refine lv_iconst (v := (1 : Int32)) hx hb dX1_fitsAll_40 (by decide) ?_
      obtain ⟨r_7, ho_15, hf⟩ := bd1_some hf
      refine t_i Y (bkS Y) (r_V (As := [.int x2, .int (1 : Int32)]) (rest := [.int r_6]) X (c_preS X Y) (cC_sighted ho_15) (cwX1_75 X (by decide)) (va_recv X.K Y.1 (q := (RX1, TX1, 9)) (q0 := 0) (ci := 1) rfl rfl) rfl hl.1 (Nat.le_of_ble_eq_true rfl) rfl dX1_fitsAll_41 ⟨Nat.zero_le _, Nat.zero_le _⟩) (fun H locs Y => ?_)
      refine lv_icmp_gt (tgt := 62) hx hb dX1_fitsAll_44 (by decide) (fun c_8 => ?_) (fun c_8 => ?_)
      · have hf := ite_t hf c_8
        refine lv_iconst (v := (0 : Int32)) hx hb dX1_fitsAll_62 (by decide) ?_
        have e90 := Option.some.inj hf
        subst e90
        exact x_zret X Y rfl dX1_fitsAll_63
      · have hf := ite_f hf c_8
        refine lv_iload_n hx hb dX1_fitsAll_47 rfl (lv_at hl 0 rfl) ?_
        refine lv_iconst (v := (3 : Int32)) hx hb dX1_fitsAll_48 (by decide) ?_
        refine lv_icmp_eq (tgt := 64) hx hb dX1_fitsAll_49 (by decide) (fun c_9 => ?_) (fun c_9 => ?_)
        · have hf := ite_t hf c_9
          obtain ⟨x2_10, e_x2_10⟩ : ∃ z : Int32, z = (x2 + (1 : Int32)) := ⟨_, rfl⟩
          have hf := bnd_eq hf e_x2_10
          refine lv_iinc (v := x2_10) (lv' := [(2, .int x2_10), (3, .int r_2), (0, .ref (Ac 0)), (1, .int x1)]) hx hb dX1_fitsAll_64 hl (k := 3) rfl (by rw [e_x2_10]; rfl) (by decide) rfl (fun ls hl => ?_)
          refine lv_goto (tgt := 2) hx hb dX1_fitsAll_67 (by decide) ?_
          exact h2 _ _ _ _ _ _ hf _ _ _ Y (lv_sub hl [2, 3, 0] rfl)
        · have hf := ite_f hf c_9
          refine lv_iload_n hx hb dX1_fitsAll_52 rfl (lv_at hl 0 rfl) ?_
          refine lv_aload_n hx hb dX1_fitsAll_53 rfl (lv_at hl 1 rfl) ?_
          refine lv_iload_n hx hb dX1_fitsAll_54 rfl (lv_at hl 2 rfl) ?_
          refine lv_iconst (v := (2 : Int32)) hx hb dX1_fitsAll_55 (by decide) ?_
          obtain ⟨r_11, ho_14, hf⟩ := bd1_some hf
          refine t_i Y (bkS Y) (r_V (As := [.int x1, .int (2 : Int32)]) (rest := [.int r_2]) X (c_preS X Y) (cC_fact ho_14) (cwX1_58 X (by decide)) (va_recv X.K Y.1 (q := (RX1, TX1, 9)) (q0 := 0) (ci := 1) rfl rfl) rfl hl.1 (Nat.le_of_ble_eq_true rfl) rfl dX1_fitsAll_56 ⟨Nat.zero_le _, Nat.zero_le _⟩) (fun H locs Y => ?_)
          refine lv_icmp_eq (tgt := 64) hx hb dX1_fitsAll_59 (by decide) (fun c_12 => ?_) (fun c_12 => ?_)
          · have hf := ite_t hf c_12
            obtain ⟨x2_13, e_x2_13⟩ : ∃ z : Int32, z = (x2 + (1 : Int32)) := ⟨_, rfl⟩
            have hf := bnd_eq hf e_x2_13
            refine lv_iinc (v := x2_13) (lv' := [(2, .int x2_13), (3, .int r_2), (0, .ref (Ac 0)), (1, .int x1)]) hx hb dX1_fitsAll_64 hl (k := 3) rfl (by rw [e_x2_13]; rfl) (by decide) rfl (fun ls hl => ?_)
            refine lv_goto (tgt := 2) hx hb dX1_fitsAll_67 (by decide) ?_
            exact h2 _ _ _ _ _ _ hf _ _ _ Y (lv_sub hl [2, 3, 0] rfl)
          · have hf := ite_f hf c_12
            refine lv_iconst (v := (0 : Int32)) hx hb dX1_fitsAll_62 (by decide) ?_
            have e90 := Option.some.inj hf
            subst e90
            exact x_zret X Y rfl dX1_fitsAll_63
def C_fitsAll_L2 : Nat → Int32 → Int32 → Int32 → Int32 → (Nat → Int32) → (Nat → Int32) → Option (Int32)
  | 0, _, _, _, _, _, _ => none
  | n + 1, x1, x2, csi, csg, cfa, cst => C_fitsAll_2 (C_fitsAll_L2 n) x1 x2 csi csg cfa cst
theorem lC_fitsAll_2 {Ac : Nat → Nat} {csw : Int32} {cca : Int32} {cab : Int32} {cun : Int32} {che : Nat → Int32} {r0 : Int32} (X : Cx Γ p s m args meth c RX1 cX1_fitsAll 4 (some .boolean) w0) : ∀ (n : Nat) (x1 : Int32) (x2 : Int32) (csi : Int32) (csg : Int32) (cfa : Nat → Int32) (cst : Nat → Int32), C_fitsAll_L2 n x1 x2 csi csg cfa cst = some r0 → ∀ (H : Heap) (locs : List Loc) (ls : Array Slot), Wd Γ w0 s (WC Γ Ac csw cca csi cab cun csg cfa che cst) H locs → lv_has ls 4 [(0, .ref (Ac 0)), (1, .int x1), (2, .int x2)] → W p l e rmC_fitsAll s m args below meth c H locs 0 0 (EI Γ below args s w0 (WC Γ Ac csw cca csi cab cun csg cfa che cst) r0) (F0 m 2 ls []) := by
  intro n
  induction n with
  | zero => intro x1 x2 csi csg cfa cst hf; cases hf
  | succ n ih => intro x1 x2 csi csg cfa cst hf H locs ls Y hl; exact bC_fitsAll_2 X ih hf Y hl
def C_fitsAll (x1 : Int32) (csi : Int32) (csg : Int32) (cfa : Nat → Int32) (cst : Nat → Int32) : Option (Int32) := C_fitsAll_L2 FU x1 (0 : Int32) csi csg cfa cst
set_option maxHeartbeats 4000000 in
set_option maxRecDepth 100000 in
theorem bC_fitsAll_e {Ac : Nat → Nat} {csw : Int32} {cca : Int32} {csi : Int32} {cab : Int32} {cun : Int32} {csg : Int32} {cfa : Nat → Int32} {che : Nat → Int32} {cst : Nat → Int32} {r0 : Int32} {x1 : Int32} (X : Cx Γ p s m args meth c RX1 cX1_fitsAll 4 (some .boolean) w0) (hf : C_fitsAll x1 csi csg cfa cst = some r0) (Y : Wd Γ w0 s (WC Γ Ac csw cca csi cab cun csg cfa che cst) H locs) (hl : lv_has ls 4 [(0, .ref (Ac 0)), (1, .int x1)]) : W p l e rmC_fitsAll s m args below meth c H locs 0 0 (EI Γ below args s w0 (WC Γ Ac csw cca csi cab cun csg cfa che cst) r0) (F0 m 0 ls []) := by
  have hx := X.1
  have hb := X.2.1
  refine lv_iconst (v := (0 : Int32)) hx hb dX1_fitsAll_0 (by decide) ?_
  refine lv_istore_n (lv' := [(2, .int (0 : Int32)), (0, .ref (Ac 0)), (1, .int x1)]) hx hb dX1_fitsAll_1 rfl hl (by decide) rfl (fun ls hl => ?_)
  exact lC_fitsAll_2 X _ _ _ _ _ _ _ hf _ _ _ Y (lv_sub hl [1, 2, 0] rfl)
theorem cC_fitsAll {l : Launch} {Γ : Gm} {Ac : Nat → Nat} {csw : Int32} {cca : Int32} {csi : Int32} {cab : Int32} {cun : Int32} {csg : Int32} {cfa : Nat → Int32} {che : Nat → Int32} {cst : Nat → Int32} {r0 : Int32} {x1 : Int32} (h : C_fitsAll x1 csi csg cfa cst = some r0) : CI l Γ yX1_fitsAll (Cond.code yX1_fitsAll cX1_fitsAll 4 (some .boolean) :: GW) rmC_fitsAll [.ref (Ac 0), .int x1] (WC Γ Ac csw cca csi cab cun csg cfa che cst) (WC Γ Ac csw cca csi cab cun csg cfa che cst) r0 := ofBody (Qc := QcI Γ _ _ r0) (by decide) (Nat.le_of_ble_eq_true rfl) (fun p e s m below meth c ls _ X Y hl => bC_fitsAll_e X h Y hl)
end
