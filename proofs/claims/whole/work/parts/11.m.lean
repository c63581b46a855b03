section
variable {p : Program} {l : Launch} {e : Env} {R : Room} {s : State} {m : MethodId} {args : Array Value} {below : List Frame} {meth : Method} {c : Code} {H : Heap} {locs : List Loc} {Q : State → Prop} {cells slots : Nat}
variable {Γ : Gm} {own : String} {cc : ByteArray} {nL : Nat} {ret : Option FieldType} {w0 ws ws' : va_W} {pc : Nat} {ls : Array Slot} {rest : List Value} {a : Nat}
theorem dmX12_isTopV : yX12_isTop.cls = RX12 ∧ yX12_isTop.cls ≠ "java/lang/invoke/MethodHandle" ∧ yX12_isTop.cls ≠ "java/lang/invoke/VarHandle" ∧ (parseMethodDescriptor yX12_isTop.desc).map (fun d => d.parameters.length) = some 5 := by decide +kernel
theorem cwX12_74 (X : Cx Γ p s m args meth c RX12 cc nL ret w0) (hR : rmM_isTop.frames + 1 ≤ R.frames ∧ 8 + (11 + 11) + rmM_isTop.locals ≤ R.locals) : CallW R s args RX12 RX12 74 yX12_isTop cX12_isTop 11 (some .boolean) (Cond.code yX12_isTop cX12_isTop 11 (some .boolean) :: GW) rmM_isTop 0 0 5 := cw_V X kw39 kw40 kw41 kw4 kw42 dmX12_isTopV rfl rfl hR
def rmM_isFree : Room := { frames := 2, cells := 0, slots := 0, locals := 51 }
def M_isFree (x1 : Int32) (w : Nat → Int32) : Option (Int32) := bd1 (M_isTop (0 : Int32) (w 5) x1 (-1 : Int32) (0 : Int32) w) (fun (r_1 : Int32) => ck (bo r_1) (some r_1))
set_option maxHeartbeats 4000000 in
set_option maxRecDepth 100000 in
theorem bM_isFree_e {Am : Nat → Nat} {w : Nat → Int32} {kp : Nat → Int32} {tx : Nat → Int32} {td : Int32} {rf : Nat → Int32} {fa : Int64} {fb : Int64} {ap : Int32} {sp : Int32} {iw : Int32} {ig : Int32} {nu : Nat → Int32} {lst : Int32} {lwo : Int32} {hh : Int64} {r0 : Int32} {x1 : Int32} (X : Cx Γ p s m args meth c RX12 cX12_isFree 2 (some .boolean) w0) (hf : M_isFree x1 w = some r0) (Y : Wd Γ w0 s (WM Γ Am w kp tx td rf fa fb ap sp iw ig nu lst lwo hh) H locs) (hl : lv_has ls 2 [(0, .ref (Am 0)), (1, .int x1)]) : W p l e rmM_isFree s m args below meth c H locs 0 0 (EI Γ below args s w0 (WM Γ Am w kp tx td rf fa fb ap sp iw ig nu lst lwo hh) r0) (F0 m 0 ls []) := by
  have hx := X.1
  have hb := X.2.1
  refine lv_aload_n hx hb dX12_isFree_0 rfl (lv_at hl 0 rfl) ?_
  refine lv_iconst (v := (0 : Int32)) hx hb dX12_isFree_1 (by decide) ?_
  refine lv_aload_n hx hb dX12_isFree_2 rfl (lv_at hl 0 rfl) ?_
  refine gfX12_7 X Y (v := .ref (Am 1)) 0 rfl rfl dX12_isFree_3 ?_
  refine lv_iconst (v := (5 : Int32)) hx hb dX12_isFree_6 (by decide) ?_
  refine x_iald X Y 1 rfl (j := 5) rfl rfl dX12_isFree_7 ?_
  refine lv_iload_n hx hb dX12_isFree_8 rfl (lv_at hl 1 rfl) ?_
  refine lv_iconst (v := (-1 : Int32)) hx hb dX12_isFree_9 (by decide) ?_
  refine lv_iconst (v := (0 : Int32)) hx hb dX12_isFree_10 (by decide) ?_
  obtain ⟨r_1, ho_3, hf⟩ := bd1_some hf
  refine t_i Y (bkS Y) (r_V (As := [.int (0 : Int32), .int (w 5), .int x1, .int (-1 : Int32), .int (0 : Int32)]) (rest := []) X (c_preS X Y) (cM_isTop ho_3) (cwX12_74 X (by decide)) (va_recv X.K Y.1 (q := (RX12, TX12, 15)) (q0 := 0) (ci := 12) rfl rfl) rfl hl.1 (Nat.le_of_ble_eq_true rfl) rfl dX12_isFree_11 ⟨Nat.zero_le _, Nat.zero_le _⟩) (fun H locs Y => ?_)
  obtain ⟨hz_2, hf⟩ := ck_some hf
  have e90 := Option.some.inj hf
  subst e90
  exact x_zret X Y (bo_nar hz_2) dX12_isFree_14
theorem cM_isFree {l : Launch} {Γ : Gm} {Am : Nat → Nat} {w : Nat → Int32} {kp : Nat → Int32} {tx : Nat → Int32} {td : Int32} {rf : Nat → Int32} {fa : Int64} {fb : Int64} {ap : Int32} {sp : Int32} {iw : Int32} {ig : Int32} {nu : Nat → Int32} {lst : Int32} {lwo : Int32} {hh : Int64} {r0 : Int32} {x1 : Int32} (h : M_isFree x1 w = some r0) : CI l Γ yX12_isFree (Cond.code yX12_isFree cX12_isFree 2 (some .boolean) :: GW) rmM_isFree [.ref (Am 0), .int x1] (WM Γ Am w kp tx td rf fa fb ap sp iw ig nu lst lwo hh) (WM Γ Am w kp tx td rf fa fb ap sp iw ig nu lst lwo hh) r0 := ofBody (Qc := QcI Γ _ _ r0) (by decide) (Nat.le_of_ble_eq_true rfl) (fun p e s m below meth c ls _ X Y hl => bM_isFree_e X h Y hl)
theorem gfX12_80 (X : Cx Γ p s m args meth c RX12 cc nL ret w0) (Y : Wd Γ w0 s ws H locs) {v : Value} (q0 : Nat) {fs : List Value} (he : ws[q0]? = some (a, .inr (12, fs))) (hv : fs[3]? = some v) (hdg : decode cc pc = .ok (.getfield 80, 3)) (kk : W p l e R s m args below meth c H locs cells slots Q (F0 m (pc + 3) ls (v :: rest))) : W p l e R s m args below meth c H locs cells slots Q (F0 m pc ls (.ref a :: rest)) := x_get X Y iX12 rfl 3 (by decide) rfl kw44 q0 he hv hdg kk
theorem gfX12_17 (X : Cx Γ p s m args meth c RX12 cc nL ret w0) (Y : Wd Γ w0 s ws H locs) {v : Value} (q0 : Nat) {fs : List Value} (he : ws[q0]? = some (a, .inr (12, fs))) (hv : fs[2]? = some v) (hdg : decode cc pc = .ok (.getfield 17, 3)) (kk : W p l e R s m args below meth c H locs cells slots Q (F0 m (pc + 3) ls (v :: rest))) : W p l e R s m args below meth c H locs cells slots Q (F0 m pc ls (.ref a :: rest)) := x_get X Y iX12 rfl 2 (by decide) rfl kw45 q0 he hv hdg kk
theorem pfX12_80 (X : Cx Γ p s m args meth c RX12 cc nL ret w0) (Y : Wd Γ w0 s ws H locs) (q0 : Nat) {fs : List Value} (he : ws[q0]? = some (a, .inr (12, fs))) {v : Value} (hn : narrow (tyX12 3) v = v) (hfit : fits (tyX12 3) v = true) (hl : 3 < fs.length) (hw : ws.set q0 (a, .inr (12, fs.set 3 v)) = ws') (hdg : decode cc pc = .ok (.putfield 80, 3)) (kk : ∀ (H1 : Heap) (locs1 : List Loc), Wd Γ w0 s ws' H1 locs1 → W p l e R s m args below meth c H1 locs1 cells slots Q (F0 m (pc + 3) ls rest)) : W p l e R s m args below meth c H locs cells slots Q (F0 m pc ls (v :: .ref a :: rest)) := x_put X Y iX12 tyX12 tyX12_ok nmX12 rfl 3 (by decide) rfl kw44 rfl q0 he hn hfit hl hw hdg kk
def rmM_type : Room := { frames := 1, cells := 0, slots := 0, locals := 25 }
def M_type (x1 : Int32) (tx : Nat → Int32) (td : Int32) (rf : Nat → Int32) : Option (Int32 × (Nat → Int32) × Int32 × (Nat → Int32)) := bd1 (M_in x1.toInt64 (0 : Int64) (127 : Int64)) (fun (r_1 : Int32) => if r_1 = 0 then (bd2 (M_bad rf) (fun (r_10 : Int32) (rf_11 : Nat → Int32) => some (r_10, tx, td, rf_11))) else (if td = (150 : Int32) then (bd2 (M_full rf) (fun (r_7 : Int32) (rf_8 : Nat → Int32) => some (r_7, tx, td, rf_8))) else (ck (inb td 150) (bnd (upd tx td.toNatClampNeg x1) (fun (tx_4 : Nat → Int32) => bnd (td + (1 : Int32)) (fun (td_6 : Int32) => some (td_6, tx_4, td_6, rf)))))))
set_option maxHeartbeats 4000000 in
set_option maxRecDepth 100000 in
theorem bM_type_e {Am : Nat → Nat} {w : Nat → Int32} {kp : Nat → Int32} {tx : Nat → Int32} {td : Int32} {rf : Nat → Int32} {fa : Int64} {fb : Int64} {ap : Int32} {sp : Int32} {iw : Int32} {ig : Int32} {nu : Nat → Int32} {lst : Int32} {lwo : Int32} {hh : Int64} {tx_z : Nat → Int32} {td_z : Int32} {rf_z : Nat → Int32} {r0 : Int32} {x1 : Int32} (X : Cx Γ p s m args meth c RX12 cX12_type 2 (some .int) w0) (hf : M_type x1 tx td rf = some (r0, tx_z, td_z, rf_z)) (Y : Wd Γ w0 s (WM Γ Am w kp tx td rf fa fb ap sp iw ig nu lst lwo hh) H locs) (hl : lv_has ls 2 [(0, .ref (Am 0)), (1, .int x1)]) : W p l e rmM_type s m args below meth c H locs 0 0 (EI Γ below args s w0 (WM Γ Am w kp tx_z td_z rf_z fa fb ap sp iw ig nu lst lwo hh) r0) (F0 m 0 ls []) := by
  have hx := X.1
  have hb := X.2.1
  refine lv_iload_n hx hb dX12_type_0 rfl (lv_at hl 1 rfl) ?_
  refine lv_i2l (v := x1.toInt64) hx hb dX12_type_1 rfl ?_
  refine lv_lconst (v := (0 : Int64)) hx hb dX12_type_2 (by decide) ?_
  refine lv_ldc2 (v := (127 : Int64)) hx hb X.2.2.2.1 (X.2.2.2.2.1 _ kw43) dX12_type_3 ?_
  obtain ⟨r_1, ho_13, hf⟩ := bd1_some hf
  refine t_i Y (bk0 Y) (r_S (As := [.long x1.toInt64, .long (0 : Int64), .long (127 : Int64)]) (rest := []) X (c_pre0 X Y) (cM_in ho_13) (cwX12_34 X (by decide)) rfl hl.1 (Nat.le_of_ble_eq_true rfl) rfl dX12_type_6 ⟨Nat.zero_le _, Nat.zero_le _⟩) (fun H locs Y => ?_)
  refine lv_if_ne (tgt := 17) hx hb dX12_type_9 (by decide) (fun c_2 => ?_) (fun c_2 => ?_)
  · have hf := ite_f hf c_2
    refine lv_aload_n hx hb dX12_type_17 rfl (lv_at hl 0 rfl) ?_
    refine gfX12_80 X Y (v := .int td) 0 rfl rfl dX12_type_18 ?_
    refine lv_sipush (v := (150 : Int32)) hx hb dX12_type_21 (by decide) ?_
    refine lv_icmp_ne (tgt := 32) hx hb dX12_type_24 (by decide) (fun c_3 => ?_) (fun c_3 => ?_)
    · have hf := ite_f hf c_3
      refine lv_aload_n hx hb dX12_type_32 rfl (lv_at hl 0 rfl) ?_
      refine gfX12_17 X Y (v := .ref (Am 3)) 0 rfl rfl dX12_type_33 ?_
      refine lv_aload_n hx hb dX12_type_36 rfl (lv_at hl 0 rfl) ?_
      refine gfX12_80 X Y (v := .int td) 0 rfl rfl dX12_type_37 ?_
      refine lv_iload_n hx hb dX12_type_40 rfl (lv_at hl 1 rfl) ?_
      obtain ⟨hi_5, hf⟩ := ck_some hf
      obtain ⟨tx_4, e_tx_4⟩ : ∃ z : Nat → Int32, z = (upd tx td.toNatClampNeg x1) := ⟨_, rfl⟩
      have hf := bnd_eq hf e_tx_4
      refine x_iast X Y 3 rfl rfl hi_5 (ws' := (WM Γ Am w kp tx_4 td rf fa fb ap sp iw ig nu lst lwo hh)) (by subst e_tx_4; rfl) dX12_type_41 (fun H locs Y => ?_)
      refine lv_aload_n hx hb dX12_type_42 rfl (lv_at hl 0 rfl) ?_
      refine lv_dup hx hb dX12_type_43 rfl ?_
      refine gfX12_80 X Y (v := .int td) 0 rfl rfl dX12_type_44 ?_
      refine lv_iconst (v := (1 : Int32)) hx hb dX12_type_47 (by decide) ?_
      refine lv_iadd hx hb dX12_type_48 ?_
      refine lv_topi (fun td_6 e_td_6 => ?_)
      have hf := bnd_eq hf e_td_6
      refine pfX12_80 X Y 0 rfl rfl rfl (Nat.le_of_ble_eq_true rfl) (ws' := (WM Γ Am w kp tx_4 td_6 rf fa fb ap sp iw ig nu lst lwo hh)) rfl dX12_type_49 (fun H locs Y => ?_)
      refine lv_aload_n hx hb dX12_type_52 rfl (lv_at hl 0 rfl) ?_
      refine gfX12_80 X Y (v := .int td_6) 0 rfl rfl dX12_type_53 ?_
      obtain ⟨e90, e91, e92, e93⟩ := sj4 hf
      subst e90
      subst e91
      subst e92
      subst e93
      exact x_iret X Y dX12_type_56
    · have hf := ite_t hf c_3
      refine lv_aload_n hx hb dX12_type_27 rfl (lv_at hl 0 rfl) ?_
      obtain ⟨r_7, rf_8, ho_9, hf⟩ := bd2_some hf
      refine t_i Y (bkS Y) (r_V (As := []) (rest := []) X (c_preS X Y) (cM_full ho_9) (cwX12_60 X (by decide)) (va_recv X.K Y.1 (q := (RX12, TX12, 15)) (q0 := 0) (ci := 12) rfl rfl) rfl hl.1 (Nat.le_of_ble_eq_true rfl) rfl dX12_type_28 ⟨Nat.zero_le _, Nat.zero_le _⟩) (fun H locs Y => ?_)
      obtain ⟨e90, e91, e92, e93⟩ := sj4 hf
      subst e90
      subst e91
      subst e92
      subst e93
      exact x_iret X Y dX12_type_31
  · have hf := ite_t hf c_2
    refine lv_aload_n hx hb dX12_type_12 rfl (lv_at hl 0 rfl) ?_
    obtain ⟨r_10, rf_11, ho_12, hf⟩ := bd2_some hf
    refine t_i Y (bkS Y) (r_V (As := []) (rest := []) X (c_preS X Y) (cM_bad ho_12) (cwX12_44 X (by decide)) (va_recv X.K Y.1 (q := (RX12, TX12, 15)) (q0 := 0) (ci := 12) rfl rfl) rfl hl.1 (Nat.le_of_ble_eq_true rfl) rfl dX12_type_13 ⟨Nat.zero_le _, Nat.zero_le _⟩) (fun H locs Y => ?_)
    obtain ⟨e90, e91, e92, e93⟩ := sj4 hf
    subst e90
    subst e91
    subst e92
    subst e93
    exact x_iret X Y dX12_type_16
theorem cM_type {l : Launch} {Γ : Gm} {Am : Nat → Nat} {w : Nat → Int32} {kp : Nat → Int32} {tx : Nat → Int32} {td : Int32} {rf : Nat → Int32} {fa : Int64} {fb : Int64} {ap : Int32} {sp : Int32} {iw : Int32} {ig : Int32} {nu : Nat → Int32} {lst : Int32} {lwo : Int32} {hh : Int64} {tx_z : Nat → Int32} {td_z : Int32} {rf_z : Nat → Int32} {r0 : Int32} {x1 : Int32} (h : M_type x1 tx td rf = some (r0, tx_z, td_z, rf_z)) : CI l Γ yX12_type (Cond.code yX12_type cX12_type 2 (some .int) :: GW) rmM_type [.ref (Am 0), .int x1] (WM Γ Am w kp tx td rf fa fb ap sp iw ig nu lst lwo hh) (WM Γ Am w kp tx_z td_z rf_z fa fb ap sp iw ig nu lst lwo hh) r0 := ofBody (Qc := QcI Γ _ _ r0) (by decide) (Nat.le_of_ble_eq_true rfl) (fun p e s m below meth c ls _ X Y hl => bM_type_e X h Y hl)
def rmM_clear : Room := { frames := 0, cells := 0, slots := 0, locals := 0 }
def M_clear (td : Int32) : Option (Int32 × Int32) := some (td, (0 : Int32))
set_option maxHeartbeats 4000000 in
set_option maxRecDepth 100000 in
theorem bM_clear_e {Am : Nat → Nat} {w : Nat → Int32} {kp : Nat → Int32} {tx : Nat → Int32} {td : Int32} {rf : Nat → Int32} {fa : Int64} {fb : Int64} {ap : Int32} {sp : Int32} {iw : Int32} {ig : Int32} {nu : Nat → Int32} {lst : Int32} {lwo : Int32} {hh : Int64} {td_z : Int32} {r0 : Int32} (X : Cx Γ p s m args meth c RX12 cX12_clear 2 (some .int) w0) (hf : M_clear td = some (r0, td_z)) (Y : Wd Γ w0 s (WM Γ Am w kp tx td rf fa fb ap sp iw ig nu lst lwo hh) H locs) (hl : lv_has ls 2 [(0, .ref (Am 0))]) : W p l e rmM_clear s m args below meth c H locs 0 0 (EI Γ below args s w0 (WM Γ Am w kp tx td_z rf fa fb ap sp iw ig nu lst lwo hh) r0) (F0 m 0 ls []) := by
  have hx := X.1
  have hb := X.2.1
  refine lv_aload_n hx hb dX12_clear_0 rfl (lv_at hl 0 rfl) ?_
  refine gfX12_80 X Y (v := .int td) 0 rfl rfl dX12_clear_1 ?_
  refine lv_istore_n (lv' := [(1, .int td), (0, .ref (Am 0))]) hx hb dX12_clear_4 rfl hl (by decide) rfl (fun ls hl => ?_)
  refine lv_aload_n hx hb dX12_clear_5 rfl (lv_at hl 1 rfl) ?_
  refine lv_iconst (v := (0 : Int32)) hx hb dX12_clear_6 (by decide) ?_
  refine pfX12_80 X Y 0 rfl rfl rfl (Nat.le_of_ble_eq_true rfl) (ws' := (WM Γ Am w kp tx (0 : Int32) rf fa fb ap sp iw ig nu lst lwo hh)) rfl dX12_clear_7 (fun H locs Y => ?_)
  refine lv_iload_n hx hb dX12_clear_10 rfl (lv_at hl 0 rfl) ?_
  obtain ⟨e90, e91⟩ := sj2 hf
  subst e90
  subst e91
  exact x_iret X Y dX12_clear_11
theorem cM_clear {l : Launch} {Γ : Gm} {Am : Nat → Nat} {w : Nat → Int32} {kp : Nat → Int32} {tx : Nat → Int32} {td : Int32} {rf : Nat → Int32} {fa : Int64} {fb : Int64} {ap : Int32} {sp : Int32} {iw : Int32} {ig : Int32} {nu : Nat → Int32} {lst : Int32} {lwo : Int32} {hh : Int64} {td_z : Int32} {r0 : Int32} (h : M_clear td = some (r0, td_z)) : CI l Γ yX12_clear (Cond.code yX12_clear cX12_clear 2 (some .int) :: GW) rmM_clear [.ref (Am 0)] (WM Γ Am w kp tx td rf fa fb ap sp iw ig nu lst lwo hh) (WM Γ Am w kp tx td_z rf fa fb ap sp iw ig nu lst lwo hh) r0 := ofBody (Qc := QcI Γ _ _ r0) (by decide) (Nat.le_of_ble_eq_true rfl) (fun p e s m below meth c ls _ X Y hl => bM_clear_e X h Y hl)
def rmM_byteAt : Room := { frames := 0, cells := 0, slots := 0, locals := 0 }
def M_byteAt (x1 : Int32) (tx : Nat → Int32) (td : Int32) : Option (Int32) := if td ≤ x1 then (some (-1 : Int32)) else (ck (inb x1 150) (some (tx x1.toNatClampNeg)))
set_option maxHeartbeats 4000000 in
set_option maxRecDepth 100000 in
theorem bM_byteAt_e {Am : Nat → Nat} {w : Nat → Int32} {kp : Nat → Int32} {tx : Nat → Int32} {td : Int32} {rf : Nat → Int32} {fa : Int64} {fb : Int64} {ap : Int32} {sp : Int32} {iw : Int32} {ig : Int32} {nu : Nat → Int32} {lst : Int32} {lwo : Int32} {hh : Int64} {r0 : Int32} {x1 : Int32} (X : Cx Γ p s m args meth c RX12 cX12_byteAt 2 (some .int) w0) (hf : M_byteAt x1 tx td = some r0) (Y : Wd Γ w0 s (WM Γ Am w kp tx td rf fa fb ap sp iw ig nu lst lwo hh) H locs) (hl : lv_has ls 2 [(0, .ref (Am 0)), (1, .int x1)]) : W p l e rmM_byteAt s m args below meth c H locs 0 0 (EI Γ below args s w0 (WM Γ Am w kp tx td rf fa fb ap sp iw ig nu lst lwo hh) r0) (F0 m 0 ls []) := by
  have hx := X.1
  have hb := X.2.1
  refine lv_iload_n hx hb dX12_byteAt_0 rfl (lv_at hl 1 rfl) ?_
  refine lv_aload_n hx hb dX12_byteAt_1 rfl (lv_at hl 0 rfl) ?_
  refine gfX12_80 X Y (v := .int td) 0 rfl rfl dX12_byteAt_2 ?_
  refine lv_icmp_ge (tgt := 17) hx hb dX12_byteAt_5 (by decide) (fun c_1 => ?_) (fun c_1 => ?_)
  · have hf := ite_t hf c_1
    refine lv_iconst (v := (-1 : Int32)) hx hb dX12_byteAt_17 (by decide) ?_
    have e90 := Option.some.inj hf
    subst e90
    exact x_iret X Y dX12_byteAt_18
  · have hf := ite_f hf c_1
    refine lv_aload_n hx hb dX12_byteAt_8 rfl (lv_at hl 0 rfl) ?_
    refine gfX12_17 X Y (v := .ref (Am 3)) 0 rfl rfl dX12_byteAt_9 ?_
    refine lv_iload_n hx hb dX12_byteAt_12 rfl (lv_at hl 1 rfl) ?_
    obtain ⟨hi_2, hf⟩ := ck_some hf
    refine x_iald X Y 3 rfl rfl hi_2 dX12_byteAt_13 ?_
    refine lv_goto (tgt := 18) hx hb dX12_byteAt_14 (by decide) ?_
    have e90 := Option.some.inj hf
    subst e90
    exact x_iret X Y dX12_byteAt_18
theorem cM_byteAt {l : Launch} {Γ : Gm} {Am : Nat → Nat} {w : Nat → Int32} {kp : Nat → Int32} {tx : Nat → Int32} {td : Int32} {rf : Nat → Int32} {fa : Int64} {fb : Int64} {ap : Int32} {sp : Int32} {iw : Int32} {ig : Int32} {nu : Nat → Int32} {lst : Int32} {lwo : Int32} {hh : Int64} {r0 : Int32} {x1 : Int32} (h : M_byteAt x1 tx td = some r0) : CI l Γ yX12_byteAt (Cond.code yX12_byteAt cX12_byteAt 2 (some .int) :: GW) rmM_byteAt [.ref (Am 0), .int x1] (WM Γ Am w kp tx td rf fa fb ap sp iw ig nu lst lwo hh) (WM Γ Am w kp tx td rf fa fb ap sp iw ig nu lst lwo hh) r0 := ofBody (Qc := QcI Γ _ _ r0) (by decide) (Nat.le_of_ble_eq_true rfl) (fun p e s m below meth c ls _ X Y hl => bM_byteAt_e X h Y hl)
theorem gfX12_84 (X : Cx Γ p s m args meth c RX12 cc nL ret w0) (Y : Wd Γ w0 s ws H locs) {v : Value} (q0 : Nat) {fs : List Value} (he : ws[q0]? = some (a, .inr (12, fs))) (hv : fs[7]? = some v) (hdg : decode cc pc = .ok (.getfield 84, 3)) (kk : W p l e R s m args below meth c H locs cells slots Q (F0 m (pc + 3) ls (v :: rest))) : W p l e R s m args below meth c H locs cells slots Q (F0 m pc ls (.ref a :: rest)) := x_get X Y iX12 rfl 7 (by decide) rfl kw46 q0 he hv hdg kk
theorem pfX12_91 (X : Cx Γ p s m args meth c RX12 cc nL ret w0) (Y : Wd Γ w0 s ws H locs) (q0 : Nat) {fs : List Value} (he : ws[q0]? = some (a, .inr (12, fs))) {v : Value} (hn : narrow (tyX12 8) v = v) (hfit : fits (tyX12 8) v = true) (hl : 8 < fs.length) (hw : ws.set q0 (a, .inr (12, fs.set 8 v)) = ws') (hdg : decode cc pc = .ok (.putfield 91, 3)) (kk : ∀ (H1 : Heap) (locs1 : List Loc), Wd Γ w0 s ws' H1 locs1 → W p l e R s m args below meth c H1 locs1 cells slots Q (F0 m (pc + 3) ls rest)) : W p l e R s m args below meth c H locs cells slots Q (F0 m pc ls (v :: .ref a :: rest)) := x_put X Y iX12 tyX12 tyX12_ok nmX12 rfl 8 (by decide) rfl kw47 rfl q0 he hn hfit hl hw hdg kk
theorem pfX12_98 (X : Cx Γ p s m args meth c RX12 cc nL ret w0) (Y : Wd Γ w0 s ws H locs) (q0 : Nat) {fs : List Value} (he : ws[q0]? = some (a, .inr (12, fs))) {v : Value} (hn : narrow (tyX12 9) v = v) (hfit : fits (tyX12 9) v = true) (hl : 9 < fs.length) (hw : ws.set q0 (a, .inr (12, fs.set 9 v)) = ws') (hdg : decode cc pc = .ok (.putfield 98, 3)) (kk : ∀ (H1 : Heap) (locs1 : List Loc), Wd Γ w0 s ws' H1 locs1 → W p l e R s m args below meth c H1 locs1 cells slots Q (F0 m (pc + 3) ls rest)) : W p l e R s m args below meth c H locs cells slots Q (F0 m pc ls (v :: .ref a :: rest)) := x_put X Y iX12 tyX12 tyX12_ok nmX12 rfl 9 (by decide) rfl kw50 rfl q0 he hn hfit hl hw hdg kk
theorem pfX12_106 (X : Cx Γ p s m args meth c RX12 cc nL ret w0) (Y : Wd Γ w0 s ws H locs) (q0 : Nat) {fs : List Value} (he : ws[q0]? = some (a, .inr (12, fs))) {v : Value} (hn : narrow (tyX12 10) v = v) (hfit : fits (tyX12 10) v = true) (hl : 10 < fs.length) (hw : ws.set q0 (a, .inr (12, fs.set 10 v)) = ws') (hdg : decode cc pc = .ok (.putfield 106, 3)) (kk : ∀ (H1 : Heap) (locs1 : List Loc), Wd Γ w0 s ws' H1 locs1 → W p l e R s m args below meth c H1 locs1 cells slots Q (F0 m (pc + 3) ls rest)) : W p l e R s m args below meth c H locs cells slots Q (F0 m pc ls (v :: .ref a :: rest)) := x_put X Y iX12 tyX12 tyX12_ok nmX12 rfl 10 (by decide) rfl kw53 rfl q0 he hn hfit hl hw hdg kk
theorem dmX12_byteAtV : yX12_byteAt.cls = RX12 ∧ yX12_byteAt.cls ≠ "java/lang/invoke/MethodHandle" ∧ yX12_byteAt.cls ≠ "java/lang/invoke/VarHandle" ∧ (parseMethodDescriptor yX12_byteAt.desc).map (fun d => d.parameters.length) = some 1 := by decide +kernel
theorem cwX12_87 (X : Cx Γ p s m args meth c RX12 cc nL ret w0) (hR : rmM_byteAt.frames + 1 ≤ R.frames ∧ 8 + (2 + 11) + rmM_byteAt.locals ≤ R.locals) : CallW R s args RX12 RX12 87 yX12_byteAt cX12_byteAt 2 (some .int) (Cond.code yX12_byteAt cX12_byteAt 2 (some .int) :: GW) rmM_byteAt 0 0 1 := cw_V X kw54 kw55 kw56 kw4 kw57 dmX12_byteAtV rfl rfl hR
theorem pfX12_84 (X : Cx Γ p s m args meth c RX12 cc nL ret w0) (Y : Wd Γ w0 s ws H locs) (q0 : Nat) {fs : List Value} (he : ws[q0]? = some (a, .inr (12, fs))) {v : Value} (hn : narrow (tyX12 7) v = v) (hfit : fits (tyX12 7) v = true) (hl : 7 < fs.length) (hw : ws.set q0 (a, .inr (12, fs.set 7 v)) = ws') (hdg : decode cc pc = .ok (.putfield 84, 3)) (kk : ∀ (H1 : Heap) (locs1 : List Loc), Wd Γ w0 s ws' H1 locs1 → W p l e R s m args below meth c H1 locs1 cells slots Q (F0 m (pc + 3) ls rest)) : W p l e R s m args below meth c H locs cells slots Q (F0 m pc ls (v :: .ref a :: rest)) := x_put X Y iX12 tyX12 tyX12_ok nmX12 rfl 7 (by decide) rfl kw46 rfl q0 he hn hfit hl hw hdg kk
theorem gfX12_98 (X : Cx Γ p s m args meth c RX12 cc nL ret w0) (Y : Wd Γ w0 s ws H locs) {v : Value} (q0 : Nat) {fs : List Value} (he : ws[q0]? = some (a, .inr (12, fs))) (hv : fs[9]? = some v) (hdg : decode cc pc = .ok (.getfield 98, 3)) (kk : W p l e R s m args below meth c H locs cells slots Q (F0 m (pc + 3) ls (v :: rest))) : W p l e R s m args below meth c H locs cells slots Q (F0 m pc ls (.ref a :: rest)) := x_get X Y iX12 rfl 9 (by decide) rfl kw50 q0 he hv hdg kk
theorem gfX12_106 (X : Cx Γ p s m args meth c RX12 cc nL ret w0) (Y : Wd Γ w0 s ws H locs) {v : Value} (q0 : Nat) {fs : List Value} (he : ws[q0]? = some (a, .inr (12, fs))) (hv : fs[10]? = some v) (hdg : decode cc pc = .ok (.getfield 106, 3)) (kk : W p l e R s m args below meth c H locs cells slots Q (F0 m (pc + 3) ls (v :: rest))) : W p l e R s m args below meth c H locs cells slots Q (F0 m pc ls (.ref a :: rest)) := x_get X Y iX12 rfl 10 (by decide) rfl kw53 q0 he hv hdg kk
def rmM_token : Room := { frames := 1, cells := 0, slots := 0, locals := 25 }
def M_token_159 (rc103 : (Nat → Int32) → Int32 → Int32 → Int32 → Int32 → Int32 → Option (Int32 × Int32 × Int32 × Int32)) (tx : Nat → Int32) (td : Int32) (ap : Int32) (sp : Int32) (iw : Int32) (ig : Int32) : Option (Int32 × Int32 × Int32 × Int32) := bnd (ap + (1 : Int32)) (fun (ap_1 : Int32) => rc103 tx td ap_1 sp iw ig)
set_option maxHeartbeats 4000000 in
set_option maxRecDepth 100000 in
theorem bM_token_159 {Am : Nat → Nat} {w : Nat → Int32} {kp : Nat → Int32} {tx : Nat → Int32} {td : Int32} {rf : Nat → Int32} {fa : Int64} {fb : Int64} {ap : Int32} {sp : Int32} {iw : Int32} {ig : Int32} {nu : Nat → Int32} {lst : Int32} {lwo : Int32} {hh : Int64} {ap_z : Int32} {sp_z : Int32} {iw_z : Int32} {ig_z : Int32} {rc103 : (Nat → Int32) → Int32 → Int32 → Int32 → Int32 → Int32 → Option (Int32 × Int32 × Int32 × Int32)} (X : Cx Γ p s m args meth c RX12 cX12_token 1 none w0) (h103 : ∀ (tx : Nat → Int32) (td : Int32) (ap : Int32) (sp : Int32) (iw : Int32) (ig : Int32), rc103 tx td ap sp iw ig = some (ap_z, sp_z, iw_z, ig_z) → ∀ (H : Heap) (locs : List Loc) (ls : Array Slot), Wd Γ w0 s (WM Γ Am w kp tx td rf fa fb ap sp iw ig nu lst lwo hh) H locs → lv_has ls 1 [(0, .ref (Am 0))] → W p l e rmM_token s m args below meth c H locs 0 0 (EV Γ below args s w0 (WM Γ Am w kp tx td rf fa fb ap_z sp_z iw_z ig_z nu lst lwo hh)) (F0 m 103 ls [])) (hf : M_token_159 rc103 tx td ap sp iw ig = some (ap_z, sp_z, iw_z, ig_z)) (Y : Wd Γ w0 s (WM Γ Am w kp tx td rf fa fb ap sp iw ig nu lst lwo hh) H locs) (hl : lv_has ls 1 [(0, .ref (Am 0))]) : W p l e rmM_token s m args below meth c H locs 0 0 (EV Γ below args s w0 (WM Γ Am w kp tx td rf fa fb ap_z sp_z iw_z ig_z nu lst lwo hh)) (F0 m 159 ls []) := by
  have hx := X.1
  have hb := X.2.1
  refine lv_aload_n hx hb dX12_token_159 rfl (lv_at hl 0 rfl) ?_
  refine lv_dup hx hb dX12_token_160 rfl ?_
  refine gfX12_84 X Y (v := .int ap) 0 rfl rfl dX12_token_161 ?_
  refine lv_iconst (v := (1 : Int32)) hx hb dX12_token_164 (by decide) ?_
  refine lv_iadd hx hb dX12_token_165 ?_
  refine lv_topi (fun ap_1 e_ap_1 => ?_)
  have hf := bnd_eq hf e_ap_1
  refine pfX12_84 X Y 0 rfl rfl rfl (Nat.le_of_ble_eq_true rfl) (ws' := (WM Γ Am w kp tx td rf fa fb ap_1 sp iw ig nu lst lwo hh)) rfl dX12_token_166 (fun H locs Y => ?_)
  refine lv_goto (tgt := 103) hx hb dX12_token_169 (by decide) ?_
  exact h103 _ _ _ _ _ _ hf _ _ _ Y (lv_sub hl [0] rfl)
def M_token_131 (rc103 : (Nat → Int32) → Int32 → Int32 → Int32 → Int32 → Int32 → Option (Int32 × Int32 × Int32 × Int32)) (tx : Nat → Int32) (td : Int32) (ap : Int32) (sp : Int32) (iw : Int32) (ig : Int32) : Option (Int32 × Int32 × Int32 × Int32) := if ig = 0 then (some (ap, sp, iw, ig)) else (bd1 (M_byteAt ap tx td) (fun (r_2 : Int32) => bd1 (M_in r_2.toInt64 (48 : Int64) (57 : Int64)) (fun (r_3 : Int32) => if r_3 = 0 then (some (ap, sp, iw, ig)) else (M_token_159 rc103 tx td ap sp iw ig))))
set_option maxHeartbeats 4000000 in
set_option maxRecDepth 100000 in
theorem bM_token_131 {Am : Nat → Nat} {w : Nat → Int32} {kp : Nat → Int32} {tx : Nat → Int32} {td : Int32} {rf : Nat → Int32} {fa : Int64} {fb : Int64} {ap : Int32} {sp : Int32} {iw : Int32} {ig : Int32} {nu : Nat → Int32} {lst : Int32} {lwo : Int32} {hh : Int64} {ap_z : Int32} {sp_z : Int32} {iw_z : Int32} {ig_z : Int32} {rc103 : (Nat → Int32) → Int32 → Int32 → Int32 → Int32 → Int32 → Option (Int32 × Int32 × Int32 × Int32)} (X : Cx Γ p s m args meth c RX12 cX12_token 1 none w0) (h103 : ∀ (tx : Nat → Int32) (td : Int32) (ap : Int32) (sp : Int32) (iw : Int32) (ig : Int32), rc103 tx td ap sp iw ig = some (ap_z, sp_z, iw_z, ig_z) → ∀ (H : Heap) (locs : List Loc) (ls : Array Slot), Wd Γ w0 s (WM Γ Am w kp tx td rf fa fb ap sp iw ig nu lst lwo hh) H locs → lv_has ls 1 [(0, .ref (Am 0))] → W p l e rmM_token s m args below meth c H locs 0 0 (EV Γ below args s w0 (WM Γ Am w kp tx td rf fa fb ap_z sp_z iw_z ig_z nu lst lwo hh)) (F0 m 103 ls [])) (hf : M_token_131 rc103 tx td ap sp iw ig = some (ap_z, sp_z, iw_z, ig_z)) (Y : Wd Γ w0 s (WM Γ Am w kp tx td rf fa fb ap sp iw ig nu lst lwo hh) H locs) (hl : lv_has ls 1 [(0, .ref (Am 0))]) : W p l e rmM_token s m args below meth c H locs 0 0 (EV Γ below args s w0 (WM Γ Am w kp tx td rf fa fb ap_z sp_z iw_z ig_z nu lst lwo hh)) (F0 m 131 ls []) := by
  have hx := X.1
  have hb := X.2.1
  refine lv_aload_n hx hb dX12_token_131 rfl (lv_at hl 0 rfl) ?_
  refine gfX12_106 X Y (v := .int ig) 0 rfl rfl dX12_token_132 ?_
  refine lv_if_eq (tgt := 172) hx hb dX12_token_135 (by decide) (fun c_1 => ?_) (fun c_1 => ?_)
  · have hf := ite_t hf c_1
    obtain ⟨e90, e91, e92, e93⟩ := sj4 hf
    subst e90
    subst e91
    subst e92
    subst e93
    exact x_vret X Y dX12_token_172
  · have hf := ite_f hf c_1
    refine lv_aload_n hx hb dX12_token_138 rfl (lv_at hl 0 rfl) ?_
    refine lv_aload_n hx hb dX12_token_139 rfl (lv_at hl 0 rfl) ?_
    refine gfX12_84 X Y (v := .int ap) 0 rfl rfl dX12_token_140 ?_
    obtain ⟨r_2, ho_6, hf⟩ := bd1_some hf
    refine t_i Y (bkS Y) (r_V (As := [.int ap]) (rest := []) X (c_preS X Y) (cM_byteAt ho_6) (cwX12_87 X (by decide)) (va_recv X.K Y.1 (q := (RX12, TX12, 15)) (q0 := 0) (ci := 12) rfl rfl) rfl hl.1 (Nat.le_of_ble_eq_true rfl) rfl dX12_token_143 ⟨Nat.zero_le _, Nat.zero_le _⟩) (fun H locs Y => ?_)
    refine lv_i2l (v := r_2.toInt64) hx hb dX12_token_146 rfl ?_
    refine lv_ldc2 (v := (48 : Int64)) hx hb X.2.2.2.1 (X.2.2.2.2.1 _ kw51) dX12_token_147 ?_
    refine lv_ldc2 (v := (57 : Int64)) hx hb X.2.2.2.1 (X.2.2.2.2.1 _ kw52) dX12_token_150 ?_
    obtain ⟨r_3, ho_5, hf⟩ := bd1_some hf
    refine t_i Y (bk0 Y) (r_S (As := [.long r_2.toInt64, .long (48 : Int64), .long (57 : Int64)]) (rest := []) X (c_pre0 X Y) (cM_in ho_5) (cwX12_34 X (by decide)) rfl hl.1 (Nat.le_of_ble_eq_true rfl) rfl dX12_token_153 ⟨Nat.zero_le _, Nat.zero_le _⟩) (fun H locs Y => ?_)
    refine lv_if_eq (tgt := 172) hx hb dX12_token_156 (by decide) (fun c_4 => ?_) (fun c_4 => ?_)
    · have hf := ite_t hf c_4
      obtain ⟨e90, e91, e92, e93⟩ := sj4 hf
      subst e90
      subst e91
      subst e92
      subst e93
      exact x_vret X Y dX12_token_172
    · have hf := ite_f hf c_4
      exact bM_token_159 X h103 hf Y (lv_sub hl [0] rfl)
def M_token_103 (rc103 : (Nat → Int32) → Int32 → Int32 → Int32 → Int32 → Int32 → Option (Int32 × Int32 × Int32 × Int32)) (tx : Nat → Int32) (td : Int32) (ap : Int32) (sp : Int32) (iw : Int32) (ig : Int32) : Option (Int32 × Int32 × Int32 × Int32) := if iw = 0 then (M_token_131 rc103 tx td ap sp iw ig) else (bd1 (M_byteAt ap tx td) (fun (r_2 : Int32) => bd1 (M_in r_2.toInt64 (97 : Int64) (122 : Int64)) (fun (r_3 : Int32) => if r_3 = 0 then (M_token_131 rc103 tx td ap sp iw ig) else (M_token_159 rc103 tx td ap sp iw ig))))
set_option maxHeartbeats 4000000 in
set_option maxRecDepth 100000 in
theorem bM_token_103 {Am : Nat → Nat} {w : Nat → Int32} {kp : Nat → Int32} {tx : Nat → Int32} {td : Int32} {rf : Nat → Int32} {fa : Int64} {fb : Int64} {ap : Int32} {sp : Int32} {iw : Int32} {ig : Int32} {nu : Nat → Int32} {lst : Int32} {lwo : Int32} {hh : Int64} {ap_z : Int32} {sp_z : Int32} {iw_z : Int32} {ig_z : Int32} {rc103 : (Nat → Int32) → Int32 → Int32 → Int32 → Int32 → Int32 → Option (Int32 × Int32 × Int32 × Int32)} (X : Cx Γ p s m args meth c RX12 cX12_token 1 none w0) (h103 : ∀ (tx : Nat → Int32) (td : Int32) (ap : Int32) (sp : Int32) (iw : Int32) (ig : Int32), rc103 tx td ap sp iw ig = some (ap_z, sp_z, iw_z, ig_z) → ∀ (H : Heap) (locs : List Loc) (ls : Array Slot), Wd Γ w0 s (WM Γ Am w kp tx td rf fa fb ap sp iw ig nu lst lwo hh) H locs → lv_has ls 1 [(0, .ref (Am 0))] → W p l e rmM_token s m args below meth c H locs 0 0 (EV Γ below args s w0 (WM Γ Am w kp tx td rf fa fb ap_z sp_z iw_z ig_z nu lst lwo hh)) (F0 m 103 ls [])) (hf : M_token_103 rc103 tx td ap sp iw ig = some (ap_z, sp_z, iw_z, ig_z)) (Y : Wd Γ w0 s (WM Γ Am w kp tx td rf fa fb ap sp iw ig nu lst lwo hh) H locs) (hl : lv_has ls 1 [(0, .ref (Am 0))]) : W p l e rmM_token s m args below meth c H locs 0 0 (EV Γ below args s w0 (WM Γ Am w kp tx td rf fa fb ap_z sp_z iw_z ig_z nu lst lwo hh)) (F0 m 103 ls []) := by
  have hx := X.1
  have hb := X.2.1
  refine lv_aload_n hx hb dX12_token_103 rfl (lv_at hl 0 rfl) ?_
  refine gfX12_98 X Y (v := .int iw) 0 rfl rfl dX12_token_104 ?_
  refine lv_if_eq (tgt := 131) hx hb dX12_token_107 (by decide) (fun c_1 => ?_) (fun c_1 => ?_)
  · have hf := ite_t hf c_1
    exact bM_token_131 X h103 hf Y (lv_sub hl [0] rfl)
  · have hf := ite_f hf c_1
    refine lv_aload_n hx hb dX12_token_110 rfl (lv_at hl 0 rfl) ?_
    refine lv_aload_n hx hb dX12_token_111 rfl (lv_at hl 0 rfl) ?_
    refine gfX12_84 X Y (v := .int ap) 0 rfl rfl dX12_token_112 ?_
    obtain ⟨r_2, ho_6, hf⟩ := bd1_some hf
    refine t_i Y (bkS Y) (r_V (As := [.int ap]) (rest := []) X (c_preS X Y) (cM_byteAt ho_6) (cwX12_87 X (by decide)) (va_recv X.K Y.1 (q := (RX12, TX12, 15)) (q0 := 0) (ci := 12) rfl rfl) rfl hl.1 (Nat.le_of_ble_eq_true rfl) rfl dX12_token_115 ⟨Nat.zero_le _, Nat.zero_le _⟩) (fun H locs Y => ?_)
    refine lv_i2l (v := r_2.toInt64) hx hb dX12_token_118 rfl ?_
    refine lv_ldc2 (v := (97 : Int64)) hx hb X.2.2.2.1 (X.2.2.2.2.1 _ kw48) dX12_token_119 ?_
    refine lv_ldc2 (v := (122 : Int64)) hx hb X.2.2.2.1 (X.2.2.2.2.1 _ kw49) dX12_token_122 ?_
    obtain ⟨r_3, ho_5, hf⟩ := bd1_some hf
    refine t_i Y (bk0 Y) (r_S (As := [.long r_2.toInt64, .long (97 : Int64), .long (122 : Int64)]) (rest := []) X (c_pre0 X Y) (cM_in ho_5) (cwX12_34 X (by decide)) rfl hl.1 (Nat.le_of_ble_eq_true rfl) rfl dX12_token_125 ⟨Nat.zero_le _, Nat.zero_le _⟩) (fun H locs Y => ?_)
    refine lv_if_ne (tgt := 159) hx hb dX12_token_128 (by decide) (fun c_4 => ?_) (fun c_4 => ?_)
    · have hf := ite_f hf c_4
      exact bM_token_159 X h103 hf Y (lv_sub hl [0] rfl)
    · have hf := ite_t hf c_4
      exact bM_token_131 X h103 hf Y (lv_sub hl [0] rfl)
def M_token_L103 : Nat → (Nat → Int32) → Int32 → Int32 → Int32 → Int32 → Int32 → Option (Int32 × Int32 × Int32 × Int32)
  | 0, _, _, _, _, _, _ => none
  | n + 1, tx, td, ap, sp, iw, ig => M_token_103 (M_token_L103 n) tx td ap sp iw ig
theorem lM_token_103 {Am : Nat → Nat} {w : Nat → Int32} {kp : Nat → Int32} {rf : Nat → Int32} {fa : Int64} {fb : Int64} {nu : Nat → Int32} {lst : Int32} {lwo : Int32} {hh : Int64} {ap_z : Int32} {sp_z : Int32} {iw_z : Int32} {ig_z : Int32} (X : Cx Γ p s m args meth c RX12 cX12_token 1 none w0) : ∀ (n : Nat) (tx : Nat → Int32) (td : Int32) (ap : Int32) (sp : Int32) (iw : Int32) (ig : Int32), M_token_L103 n tx td ap sp iw ig = some (ap_z, sp_z, iw_z, ig_z) → ∀ (H : Heap) (locs : List Loc) (ls : Array Slot), Wd Γ w0 s (WM Γ Am w kp tx td rf fa fb ap sp iw ig nu lst lwo hh) H locs → lv_has ls 1 [(0, .ref (Am 0))] → W p l e rmM_token s m args below meth c H locs 0 0 (EV Γ below args s w0 (WM Γ Am w kp tx td rf fa fb ap_z sp_z iw_z ig_z nu lst lwo hh)) (F0 m 103 ls []) := by
  intro n
  induction n with
  | zero => intro tx td ap sp iw ig hf; cases hf
  | succ n ih => intro tx td ap sp iw ig hf H locs ls Y hl; exact bM_token_103 X ih hf Y hl
def M_token_99 (y0 : Int32) (y1 : Int32) (tx : Nat → Int32) (td : Int32) (ap : Int32) (sp : Int32) (iw : Int32) (ig : Int32) : Option (Int32 × Int32 × Int32 × Int32) := bnd (y1 + y0) (fun (ap_1 : Int32) => M_token_L103 FU tx td ap_1 sp iw ig)
set_option maxHeartbeats 4000000 in
set_option maxRecDepth 100000 in
theorem bM_token_99 {Am : Nat → Nat} {w : Nat → Int32} {kp : Nat → Int32} {tx : Nat → Int32} {td : Int32} {rf : Nat → Int32} {fa : Int64} {fb : Int64} {ap : Int32} {sp : Int32} {iw : Int32} {ig : Int32} {nu : Nat → Int32} {lst : Int32} {lwo : Int32} {hh : Int64} {ap_z : Int32} {sp_z : Int32} {iw_z : Int32} {ig_z : Int32} {y0 : Int32} {y1 : Int32} (X : Cx Γ p s m args meth c RX12 cX12_token 1 none w0) (hf : M_token_99 y0 y1 tx td ap sp iw ig = some (ap_z, sp_z, iw_z, ig_z)) (Y : Wd Γ w0 s (WM Γ Am w kp tx td rf fa fb ap sp iw ig nu lst lwo hh) H locs) (hl : lv_has ls 1 [(0, .ref (Am 0))]) : W p l e rmM_token s m args below meth c H locs 0 0 (EV Γ below args s w0 (WM Γ Am w kp tx td rf fa fb ap_z sp_z iw_z ig_z nu lst lwo hh)) (F0 m 99 ls [.int y0, .int y1, .ref (Am 0)]) := by
  have hx := X.1
  have hb := X.2.1
  refine lv_iadd hx hb dX12_token_99 ?_
  refine lv_topi (fun ap_1 e_ap_1 => ?_)
  have hf := bnd_eq hf e_ap_1
  refine pfX12_84 X Y 0 rfl rfl rfl (Nat.le_of_ble_eq_true rfl) (ws' := (WM Γ Am w kp tx td rf fa fb ap_1 sp iw ig nu lst lwo hh)) rfl dX12_token_100 (fun H locs Y => ?_)
  exact lM_token_103 X _ _ _ _ _ _ _ hf _ _ _ Y (lv_sub hl [0] rfl)
def M_token_0 (rc0 : (Nat → Int32) → Int32 → Int32 → Int32 → Int32 → Int32 → Option (Int32 × Int32 × Int32 × Int32)) (tx : Nat → Int32) (td : Int32) (ap : Int32) (sp : Int32) (iw : Int32) (ig : Int32) : Option (Int32 × Int32 × Int32 × Int32) := bd1 (M_byteAt ap tx td) (fun (r_1 : Int32) => if r_1 = (32 : Int32) then (bnd (ap + (1 : Int32)) (fun (ap_14 : Int32) => rc0 tx td ap_14 sp iw ig)) else (bd1 (M_byteAt ap tx td) (fun (r_3 : Int32) => bd1 (M_in r_3.toInt64 (97 : Int64) (122 : Int64)) (fun (r_4 : Int32) => ck (bo r_4) (bd1 (M_byteAt ap tx td) (fun (r_6 : Int32) => bd1 (M_in r_6.toInt64 (48 : Int64) (57 : Int64)) (fun (r_7 : Int32) => ck (bo r_7) (if td ≤ ap then (M_token_99 (0 : Int32) ap tx td ap ap r_4 r_7) else (M_token_99 (1 : Int32) ap tx td ap ap r_4 r_7)))))))))
set_option maxHeartbeats 4000000 in
set_option maxRecDepth 100000 in
theorem bM_token_0 {Am : Nat → Nat} {w : Nat → Int32} {kp : Nat → Int32} {tx : Nat → Int32} {td : Int32} {rf : Nat → Int32} {fa : Int64} {fb : Int64} {ap : Int32} {sp : Int32} {iw : Int32} {ig : Int32} {nu : Nat → Int32} {lst : Int32} {lwo : Int32} {hh : Int64} {ap_z : Int32} {sp_z : Int32} {iw_z : Int32} {ig_z : Int32} {rc0 : (Nat → Int32) → Int32 → Int32 → Int32 → Int32 → Int32 → Option (Int32 × Int32 × Int32 × Int32)} (X : Cx Γ p s m args meth c RX12 cX12_token 1 none w0) (h0 : ∀ (tx : Nat → Int32) (td : Int32) (ap : Int32) (sp : Int32) (iw : Int32) (ig : Int32), rc0 tx td ap sp iw ig = some (ap_z, sp_z, iw_z, ig_z) → ∀ (H : Heap) (locs : List Loc) (ls : Array Slot), Wd Γ w0 s (WM Γ Am w kp tx td rf fa fb ap sp iw ig nu lst lwo hh) H locs → lv_has ls 1 [(0, .ref (Am 0))] → W p l e rmM_token s m args below meth c H locs 0 0 (EV Γ below args s w0 (WM Γ Am w kp tx td rf fa fb ap_z sp_z iw_z ig_z nu lst lwo hh)) (F0 m 0 ls [])) (hf : M_token_0 rc0 tx td ap sp iw ig = some (ap_z, sp_z, iw_z, ig_z)) (Y : Wd Γ w0 s (WM Γ Am w kp tx td rf fa fb ap sp iw ig nu lst lwo hh) H locs) (hl : lv_has ls 1 [(0, .ref (Am 0))]) : W p l e rmM_token s m args below meth c H locs 0 0 (EV Γ below args s w0 (WM Γ Am w kp tx td rf fa fb ap_z sp_z iw_z ig_z nu lst lwo hh)) (F0 m 0 ls []) := by
  have hx := X.1
  have hb := X.2.1
  refine lv_aload_n hx hb dX12_token_0 rfl (lv_at hl 0 rfl) ?_
  refine lv_aload_n hx hb dX12_token_1 rfl (lv_at hl 0 rfl) ?_
  refine gfX12_84 X Y (v := .int ap) 0 rfl rfl dX12_token_2 ?_
  obtain ⟨r_1, ho_15, hf⟩ := bd1_some hf
  refine t_i Y (bkS Y) (r_V (As := [.int ap]) (rest := []) X (c_preS X Y) (cM_byteAt ho_15) (cwX12_87 X (by decide)) (va_recv X.K Y.1 (q := (RX12, TX12, 15)) (q0 := 0) (ci := 12) rfl rfl) rfl hl.1 (Nat.le_of_ble_eq_true rfl) rfl dX12_token_5 ⟨Nat.zero_le _, Nat.zero_le _⟩) (fun H locs Y => ?_)
  refine lv_bipush (v := (32 : Int32)) hx hb dX12_token_8 (by decide) ?_
  refine lv_icmp_ne (tgt := 26) hx hb dX12_token_10 (by decide) (fun c_2 => ?_) (fun c_2 => ?_)
  · have hf := ite_f hf c_2
    refine lv_aload_n hx hb dX12_token_26 rfl (lv_at hl 0 rfl) ?_
    refine lv_aload_n hx hb dX12_token_27 rfl (lv_at hl 0 rfl) ?_
    refine gfX12_84 X Y (v := .int ap) 0 rfl rfl dX12_token_28 ?_
    refine pfX12_91 X Y 0 rfl rfl rfl (Nat.le_of_ble_eq_true rfl) (ws' := (WM Γ Am w kp tx td rf fa fb ap ap iw ig nu lst lwo hh)) rfl dX12_token_31 (fun H locs Y => ?_)
    refine lv_aload_n hx hb dX12_token_34 rfl (lv_at hl 0 rfl) ?_
    refine lv_aload_n hx hb dX12_token_35 rfl (lv_at hl 0 rfl) ?_
    refine lv_aload_n hx hb dX12_token_36 rfl (lv_at hl 0 rfl) ?_
    refine gfX12_84 X Y (v := .int ap) 0 rfl rfl dX12_token_37 ?_
    obtain ⟨r_3, ho_13, hf⟩ := bd1_some hf
    refine t_i Y (bkS Y) (r_V (As := [.int ap]) (rest := [.ref (Am 0)]) X (c_preS X Y) (cM_byteAt ho_13) (cwX12_87 X (by decide)) (va_recv X.K Y.1 (q := (RX12, TX12, 15)) (q0 := 0) (ci := 12) rfl rfl) rfl hl.1 (Nat.le_of_ble_eq_true rfl) rfl dX12_token_40 ⟨Nat.zero_le _, Nat.zero_le _⟩) (fun H locs Y => ?_)
    refine lv_i2l (v := r_3.toInt64) hx hb dX12_token_43 rfl ?_
    refine lv_ldc2 (v := (97 : Int64)) hx hb X.2.2.2.1 (X.2.2.2.2.1 _ kw48) dX12_token_44 ?_
    refine lv_ldc2 (v := (122 : Int64)) hx hb X.2.2.2.1 (X.2.2.2.2.1 _ kw49) dX12_token_47 ?_
    obtain ⟨r_4, ho_12, hf⟩ := bd1_some hf
    refine t_i Y (bk0 Y) (r_S (As := [.long r_3.toInt64, .long (97 : Int64), .long (122 : Int64)]) (rest := [.ref (Am 0)]) X (c_pre0 X Y) (cM_in ho_12) (cwX12_34 X (by decide)) rfl hl.1 (Nat.le_of_ble_eq_true rfl) rfl dX12_token_50 ⟨Nat.zero_le _, Nat.zero_le _⟩) (fun H locs Y => ?_)
    obtain ⟨hz_5, hf⟩ := ck_some hf
    refine pfX12_98 X Y 0 rfl (bo_nar hz_5) (bo_fit hz_5) (Nat.le_of_ble_eq_true rfl) (ws' := (WM Γ Am w kp tx td rf fa fb ap ap r_4 ig nu lst lwo hh)) rfl dX12_token_53 (fun H locs Y => ?_)
    refine lv_aload_n hx hb dX12_token_56 rfl (lv_at hl 0 rfl) ?_
    refine lv_aload_n hx hb dX12_token_57 rfl (lv_at hl 0 rfl) ?_
    refine lv_aload_n hx hb dX12_token_58 rfl (lv_at hl 0 rfl) ?_
    refine gfX12_84 X Y (v := .int ap) 0 rfl rfl dX12_token_59 ?_
    obtain ⟨r_6, ho_11, hf⟩ := bd1_some hf
    refine t_i Y (bkS Y) (r_V (As := [.int ap]) (rest := [.ref (Am 0)]) X (c_preS X Y) (cM_byteAt ho_11) (cwX12_87 X (by decide)) (va_recv X.K Y.1 (q := (RX12, TX12, 15)) (q0 := 0) (ci := 12) rfl rfl) rfl hl.1 (Nat.le_of_ble_eq_true rfl) rfl dX12_token_62 ⟨Nat.zero_le _, Nat.zero_le _⟩) (fun H locs Y => ?_)
    refine lv_i2l (v := r_6.toInt64) hx hb dX12_token_65 rfl ?_
    refine lv_ldc2 (v := (48 : Int64)) hx hb X.2.2.2.1 (X.2.2.2.2.1 _ kw51) dX12_token_66 ?_
    refine lv_ldc2 (v := (57 : Int64)) hx hb X.2.2.2.1 (X.2.2.2.2.1 _ kw52) dX12_token_69 ?_
    obtain ⟨r_7, ho_10, hf⟩ := bd1_some hf
    refine t_i Y (bk0 Y) (r_S (As := [.long r_6.toInt64, .long (48 : Int64), .long (57 : Int64)]) (rest := [.ref (Am 0)]) X (c_pre0 X Y) (cM_in ho_10) (cwX12_34 X (by decide)) rfl hl.1 (Nat.le_of_ble_eq_true rfl) rfl dX12_token_72 ⟨Nat.zero_le _, Nat.zero_le _⟩) (fun H locs Y => ?_)
    obtain ⟨hz_8, hf⟩ := ck_some hf
    refine pfX12_106 X Y 0 rfl (bo_nar hz_8) (bo_fit hz_8) (Nat.le_of_ble_eq_true rfl) (ws' := (WM Γ Am w kp tx td rf fa fb ap ap r_4 r_7 nu lst lwo hh)) rfl dX12_token_75 (fun H locs Y => ?_)
    refine lv_aload_n hx hb dX12_token_78 rfl (lv_at hl 0 rfl) ?_
    refine lv_dup hx hb dX12_token_79 rfl ?_
    refine gfX12_84 X Y (v := .int ap) 0 rfl rfl dX12_token_80 ?_
    refine lv_aload_n hx hb dX12_token_83 rfl (lv_at hl 0 rfl) ?_
    refine gfX12_84 X Y (v := .int ap) 0 rfl rfl dX12_token_84 ?_
    refine lv_aload_n hx hb dX12_token_87 rfl (lv_at hl 0 rfl) ?_
    refine gfX12_80 X Y (v := .int td) 0 rfl rfl dX12_token_88 ?_
    refine lv_icmp_ge (tgt := 98) hx hb dX12_token_91 (by decide) (fun c_9 => ?_) (fun c_9 => ?_)
    · have hf := ite_t hf c_9
      refine lv_iconst (v := (0 : Int32)) hx hb dX12_token_98 (by decide) ?_
      exact bM_token_99 X hf Y (lv_sub hl [0] rfl)
    · have hf := ite_f hf c_9
      refine lv_iconst (v := (1 : Int32)) hx hb dX12_token_94 (by decide) ?_
      refine lv_goto (tgt := 99) hx hb dX12_token_95 (by decide) ?_
      exact bM_token_99 X hf Y (lv_sub hl [0] rfl)
  · have hf := ite_t hf c_2
    refine lv_aload_n hx hb dX12_token_13 rfl (lv_at hl 0 rfl) ?_
    refine lv_dup hx hb dX12_token_14 rfl ?_
    refine gfX12_84 X Y (v := .int ap) 0 rfl rfl dX12_token_15 ?_
    refine lv_iconst (v := (1 : Int32)) hx hb dX12_token_18 (by decide) ?_
    refine lv_iadd hx hb dX12_token_19 ?_
    refine lv_topi (fun ap_14 e_ap_14 => ?_)
    have hf := bnd_eq hf e_ap_14
    refine pfX12_84 X Y 0 rfl rfl rfl (Nat.le_of_ble_eq_true rfl) (ws' := (WM Γ Am w kp tx td rf fa fb ap_14 sp iw ig nu lst lwo hh)) rfl dX12_token_20 (fun H locs Y => ?_)
    refine lv_goto (tgt := 0) hx hb dX12_token_23 (by decide) ?_
    exact h0 _ _ _ _ _ _ hf _ _ _ Y (lv_sub hl [0] rfl)
def M_token_L0 : Nat → (Nat → Int32) → Int32 → Int32 → Int32 → Int32 → Int32 → Option (Int32 × Int32 × Int32 × Int32)
  | 0, _, _, _, _, _, _ => none
  | n + 1, tx, td, ap, sp, iw, ig => M_token_0 (M_token_L0 n) tx td ap sp iw ig
theorem lM_token_0 {Am : Nat → Nat} {w : Nat → Int32} {kp : Nat → Int32} {rf : Nat → Int32} {fa : Int64} {fb : Int64} {nu : Nat → Int32} {lst : Int32} {lwo : Int32} {hh : Int64} {ap_z : Int32} {sp_z : Int32} {iw_z : Int32} {ig_z : Int32} (X : Cx Γ p s m args meth c RX12 cX12_token 1 none w0) : ∀ (n : Nat) (tx : Nat → Int32) (td : Int32) (ap : Int32) (sp : Int32) (iw : Int32) (ig : Int32), M_token_L0 n tx td ap sp iw ig = some (ap_z, sp_z, iw_z, ig_z) → ∀ (H : Heap) (locs : List Loc) (ls : Array Slot), Wd Γ w0 s (WM Γ Am w kp tx td rf fa fb ap sp iw ig nu lst lwo hh) H locs → lv_has ls 1 [(0, .ref (Am 0))] → W p l e rmM_token s m args below meth c H locs 0 0 (EV Γ below args s w0 (WM Γ Am w kp tx td rf fa fb ap_z sp_z iw_z ig_z nu lst lwo hh)) (F0 m 0 ls []) := by
  intro n
  induction n with
  | zero => intro tx td ap sp iw ig hf; cases hf
  | succ n ih => intro tx td ap sp iw ig hf H locs ls Y hl; exact bM_token_0 X ih hf Y hl
def M_token (tx : Nat → Int32) (td : Int32) (ap : Int32) (sp : Int32) (iw : Int32) (ig : Int32) : Option (Int32 × Int32 × Int32 × Int32) := M_token_L0 FU tx td ap sp iw ig
set_option maxHeartbeats 4000000 in
set_option maxRecDepth 100000 in
theorem bM_token_e {Am : Nat → Nat} {w : Nat → Int32} {kp : Nat → Int32} {tx : Nat → Int32} {td : Int32} {rf : Nat → Int32} {fa : Int64} {fb : Int64} {ap : Int32} {sp : Int32} {iw : Int32} {ig : Int32} {nu : Nat → Int32} {lst : Int32} {lwo : Int32} {hh : Int64} {ap_z : Int32} {sp_z : Int32} {iw_z : Int32} {ig_z : Int32} (X : Cx Γ p s m args meth c RX12 cX12_token 1 none w0) (hf : M_token tx td ap sp iw ig = some (ap_z, sp_z, iw_z, ig_z)) (Y : Wd Γ w0 s (WM Γ Am w kp tx td rf fa fb ap sp iw ig nu lst lwo hh) H locs) (hl : lv_has ls 1 [(0, .ref (Am 0))]) : W p l e rmM_token s m args below meth c H locs 0 0 (EV Γ below args s w0 (WM Γ Am w kp tx td rf fa fb ap_z sp_z iw_z ig_z nu lst lwo hh)) (F0 m 0 ls []) := by
  have hx := X.1
  have hb := X.2.1
  exact lM_token_0 X _ _ _ _ _ _ _ hf _ _ _ Y (lv_sub hl [0] rfl)
theorem cM_token {l : Launch} {Γ : Gm} {Am : Nat → Nat} {w : Nat → Int32} {kp : Nat → Int32} {tx : Nat → Int32} {td : Int32} {rf : Nat → Int32} {fa : Int64} {fb : Int64} {ap : Int32} {sp : Int32} {iw : Int32} {ig : Int32} {nu : Nat → Int32} {lst : Int32} {lwo : Int32} {hh : Int64} {ap_z : Int32} {sp_z : Int32} {iw_z : Int32} {ig_z : Int32} (h : M_token tx td ap sp iw ig = some (ap_z, sp_z, iw_z, ig_z)) : CV l Γ yX12_token (Cond.code yX12_token cX12_token 1 none :: GW) rmM_token [.ref (Am 0)] (WM Γ Am w kp tx td rf fa fb ap sp iw ig nu lst lwo hh) (WM Γ Am w kp tx td rf fa fb ap_z sp_z iw_z ig_z nu lst lwo hh) := ofBody (Qc := QcV Γ _ _) (by decide) (Nat.le_of_ble_eq_true rfl) (fun p e s m below meth c ls _ X Y hl => bM_token_e X h Y hl)
theorem gfX12_91 (X : Cx Γ p s m args meth c RX12 cc nL ret w0) (Y : Wd Γ w0 s ws H locs) {v : Value} (q0 : Nat) {fs : List Value} (he : ws[q0]? = some (a, .inr (12, fs))) (hv : fs[8]? = some v) (hdg : decode cc pc = .ok (.getfield 91, 3)) (kk : W p l e R s m args below meth c H locs cells slots Q (F0 m (pc + 3) ls (v :: rest))) : W p l e R s m args below meth c H locs cells slots Q (F0 m pc ls (.ref a :: rest)) := x_get X Y iX12 rfl 8 (by decide) rfl kw47 q0 he hv hdg kk
def rmM_isNamed : Room := { frames := 1, cells := 0, slots := 0, locals := 21 }
def M_isNamed_34 (x1 : Int32) (x2 : Int32) (x3 : Int32) (x4 : Int32) (x5 : Int32) (y0 : Int32) (tx : Nat → Int32) (td : Int32) (ap : Int32) (sp : Int32) (iw : Int32) : Option (Int32) := if y0 = 0 then (some (0 : Int32)) else (bd1 (M_byteAt sp tx td) (fun (r_2 : Int32) => if r_2 = x1 then (bd1 (M_byteAt (sp + (1 : Int32)) tx td) (fun (r_4 : Int32) => if r_4 = x2 then (bd1 (M_byteAt (sp + (2 : Int32)) tx td) (fun (r_6 : Int32) => if r_6 = x3 then (bd1 (M_byteAt (sp + (3 : Int32)) tx td) (fun (r_8 : Int32) => if r_8 = x4 then (if x5 = 0 then (some (1 : Int32)) else (bd1 (M_byteAt (sp + (4 : Int32)) tx td) (fun (r_11 : Int32) => if r_11 = x5 then (some (1 : Int32)) else (some (0 : Int32))))) else (some (0 : Int32)))) else (some (0 : Int32)))) else (some (0 : Int32)))) else (some (0 : Int32))))
set_option maxHeartbeats 4000000 in
set_option maxRecDepth 100000 in
theorem bM_isNamed_34 {Am : Nat → Nat} {w : Nat → Int32} {kp : Nat → Int32} {tx : Nat → Int32} {td : Int32} {rf : Nat → Int32} {fa : Int64} {fb : Int64} {ap : Int32} {sp : Int32} {iw : Int32} {ig : Int32} {nu : Nat → Int32} {lst : Int32} {lwo : Int32} {hh : Int64} {r0 : Int32} {x1 : Int32} {x2 : Int32} {x3 : Int32} {x4 : Int32} {x5 : Int32} {y0 : Int32} (X : Cx Γ p s m args meth c RX12 cX12_isNamed 7 (some .boolean) w0) (hf : M_isNamed_34 x1 x2 x3 x4 x5 y0 tx td ap sp iw = some r0) (Y : Wd Γ w0 s (WM Γ Am w kp tx td rf fa fb ap sp iw ig nu lst lwo hh) H locs) (hl : lv_has ls 7 [(0, .ref (Am 0)), (1, .int x1), (2, .int x2), (3, .int x3), (4, .int x4), (5, .int x5)]) : W p l e rmM_isNamed s m args below meth c H locs 0 0 (EI Γ below args s w0 (WM Γ Am w kp tx td rf fa fb ap sp iw ig nu lst lwo hh) r0) (F0 m 34 ls [.int y0]) := by
  have hx := X.1
  have hb := X.2.1
  refine lv_istore (lv' := [(6, .int y0), (0, .ref (Am 0)), (1, .int x1), (2, .int x2), (3, .int x3), (4, .int x4), (5, .int x5)]) hx hb dX12_isNamed_34 hl (by decide) rfl (fun ls hl => ?_)
  refine lv_iload hx hb dX12_isNamed_36 (lv_at hl 0 rfl) ?_
  refine lv_if_eq (tgt := 120) hx hb dX12_isNamed_38 (by decide) (fun c_1 => ?_) (fun c_1 => ?_)
  · have hf := ite_t hf c_1
    refine lv_iconst (v := (0 : Int32)) hx hb dX12_isNamed_120 (by decide) ?_
    have e90 := Option.some.inj hf
    subst e90
    exact x_zret X Y rfl dX12_isNamed_121
  · have hf := ite_f hf c_1
    refine lv_aload_n hx hb dX12_isNamed_41 rfl (lv_at hl 1 rfl) ?_
    refine lv_aload_n hx hb dX12_isNamed_42 rfl (lv_at hl 1 rfl) ?_
    refine gfX12_91 X Y (v := .int sp) 0 rfl rfl dX12_isNamed_43 ?_
    obtain ⟨r_2, ho_17, hf⟩ := bd1_some hf
    refine t_i Y (bkS Y) (r_V (As := [.int sp]) (rest := []) X (c_preS X Y) (cM_byteAt ho_17) (cwX12_87 X (by decide)) (va_recv X.K Y.1 (q := (RX12, TX12, 15)) (q0 := 0) (ci := 12) rfl rfl) rfl hl.1 (Nat.le_of_ble_eq_true rfl) rfl dX12_isNamed_46 ⟨Nat.zero_le _, Nat.zero_le _⟩) (fun H locs Y => ?_)
    refine lv_iload_n hx hb dX12_isNamed_49 rfl (lv_at hl 2 rfl) ?_
    refine lv_icmp_ne (tgt := 120) hx hb dX12_isNamed_50 (by decide) (fun c_3 => ?_) (fun c_3 => ?_)
    · have hf := ite_f hf c_3
      refine lv_iconst (v := (0 : Int32)) hx hb dX12_isNamed_120 (by decide) ?_
      have e90 := Option.some.inj hf
      subst e90
      exact x_zret X Y rfl dX12_isNamed_121
    · have hf := ite_t hf c_3
      refine lv_aload_n hx hb dX12_isNamed_53 rfl (lv_at hl 1 rfl) ?_
      refine lv_aload_n hx hb dX12_isNamed_54 rfl (lv_at hl 1 rfl) ?_
      refine gfX12_91 X Y (v := .int sp) 0 rfl rfl dX12_isNamed_55 ?_
      refine lv_iconst (v := (1 : Int32)) hx hb dX12_isNamed_58 (by decide) ?_
      refine lv_iadd hx hb dX12_isNamed_59 ?_
      obtain ⟨r_4, ho_16, hf⟩ := bd1_some hf
      refine t_i Y (bkS Y) (r_V (As := [.int (sp + (1 : Int32))]) (rest := []) X (c_preS X Y) (cM_byteAt ho_16) (cwX12_87 X (by decide)) (va_recv X.K Y.1 (q := (RX12, TX12, 15)) (q0 := 0) (ci := 12) rfl rfl) rfl hl.1 (Nat.le_of_ble_eq_true rfl) rfl dX12_isNamed_60 ⟨Nat.zero_le _, Nat.zero_le _⟩) (fun H locs Y => ?_)
      refine lv_iload_n hx hb dX12_isNamed_63 rfl (lv_at hl 3 rfl) ?_
      refine lv_icmp_ne (tgt := 120) hx hb dX12_isNamed_64 (by decide) (fun c_5 => ?_) (fun c_5 => ?_)
      · have hf := ite_f hf c_5
        refine lv_iconst (v := (0 : Int32)) hx hb dX12_isNamed_120 (by decide) ?_
        have e90 := Option.some.inj hf
        subst e90
        exact x_zret X Y rfl dX12_isNamed_121
      · have hf := ite_t hf c_5
        refine lv_aload_n hx hb dX12_isNamed_67 rfl (lv_at hl 1 rfl) ?_
        refine lv_aload_n hx hb dX12_isNamed_68 rfl (lv_at hl 1 rfl) ?_
        refine gfX12_91 X Y (v := .int sp) 0 rfl rfl dX12_isNamed_69 ?_
        refine lv_iconst (v := (2 : Int32)) hx hb dX12_isNamed_72 (by decide) ?_
        refine lv_iadd hx hb dX12_isNamed_73 ?_
        obtain ⟨r_6, ho_15, hf⟩ := bd1_some hf
        refine t_i Y (bkS Y) (r_V (As := [.int (sp + (2 : Int32))]) (rest := []) X (c_preS X Y) (cM_byteAt ho_15) (cwX12_87 X (by decide)) (va_recv X.K Y.1 (q := (RX12, TX12, 15)) (q0 := 0) (ci := 12) rfl rfl) rfl hl.1 (Nat.le_of_ble_eq_true rfl) rfl dX12_isNamed_74 ⟨Nat.zero_le _, Nat.zero_le _⟩) (fun H locs Y => ?_)
        refine lv_iload_n hx hb dX12_isNamed_77 rfl (lv_at hl 4 rfl) ?_
        refine lv_icmp_ne (tgt := 120) hx hb dX12_isNamed_78 (by decide) (fun c_7 => ?_) (fun c_7 => ?_)
        · have hf := ite_f hf c_7
          refine lv_iconst (v := (0 : Int32)) hx hb dX12_isNamed_120 (by decide) ?_
          have e90 := Option.some.inj hf
          subst e90
          exact x_zret X Y rfl dX12_isNamed_121
        · have hf := ite_t hf c_7
          refine lv_aload_n hx hb dX12_isNamed_81 rfl (lv_at hl 1 rfl) ?_
          refine lv_aload_n hx hb dX12_isNamed_82 rfl (lv_at hl 1 rfl) ?_
          refine gfX12_91 X Y (v := .int sp) 0 rfl rfl dX12_isNamed_83 ?_
          refine lv_iconst (v := (3 : Int32)) hx hb dX12_isNamed_86 (by decide) ?_
          refine lv_iadd hx hb dX12_isNamed_87 ?_
          obtain ⟨r_8, ho_14, hf⟩ := bd1_some hf
          refine t_i Y (bkS Y) (r_V (As := [.int (sp + (3 : Int32))]) (rest := []) X (c_preS X Y) (cM_byteAt ho_14) (cwX12_87 X (by decide)) (va_recv X.K Y.1 (q := (RX12, TX12, 15)) (q0 := 0) (ci := 12) rfl rfl) rfl hl.1 (Nat.le_of_ble_eq_true rfl) rfl dX12_isNamed_88 ⟨Nat.zero_le _, Nat.zero_le _⟩) (fun H locs Y => ?_)
          refine lv_iload hx hb dX12_isNamed_91 (lv_at hl 5 rfl) ?_
          refine lv_icmp_ne (tgt := 120) hx hb dX12_isNamed_93 (by decide) (fun c_9 => ?_) (fun c_9 => ?_)
          · have hf := ite_f hf c_9
            refine lv_iconst (v := (0 : Int32)) hx hb dX12_isNamed_120 (by decide) ?_
            have e90 := Option.some.inj hf
            subst e90
            exact x_zret X Y rfl dX12_isNamed_121
          · have hf := ite_t hf c_9
            refine lv_iload hx hb dX12_isNamed_96 (lv_at hl 6 rfl) ?_
            refine lv_if_eq (tgt := 116) hx hb dX12_isNamed_98 (by decide) (fun c_10 => ?_) (fun c_10 => ?_)
            · have hf := ite_t hf c_10
              refine lv_iconst (v := (1 : Int32)) hx hb dX12_isNamed_116 (by decide) ?_
              refine lv_goto (tgt := 121) hx hb dX12_isNamed_117 (by decide) ?_
              have e90 := Option.some.inj hf
              subst e90
              exact x_zret X Y rfl dX12_isNamed_121
            · have hf := ite_f hf c_10
              refine lv_aload_n hx hb dX12_isNamed_101 rfl (lv_at hl 1 rfl) ?_
              refine lv_aload_n hx hb dX12_isNamed_102 rfl (lv_at hl 1 rfl) ?_
              refine gfX12_91 X Y (v := .int sp) 0 rfl rfl dX12_isNamed_103 ?_
              refine lv_iconst (v := (4 : Int32)) hx hb dX12_isNamed_106 (by decide) ?_
              refine lv_iadd hx hb dX12_isNamed_107 ?_
              obtain ⟨r_11, ho_13, hf⟩ := bd1_some hf
              refine t_i Y (bkS Y) (r_V (As := [.int (sp + (4 : Int32))]) (rest := []) X (c_preS X Y) (cM_byteAt ho_13) (cwX12_87 X (by decide)) (va_recv X.K Y.1 (q := (RX12, TX12, 15)) (q0 := 0) (ci := 12) rfl rfl) rfl hl.1 (Nat.le_of_ble_eq_true rfl) rfl dX12_isNamed_108 ⟨Nat.zero_le _, Nat.zero_le _⟩) (fun H locs Y => ?_)
              refine lv_iload hx hb dX12_isNamed_111 (lv_at hl 6 rfl) ?_
              refine lv_icmp_ne (tgt := 120) hx hb dX12_isNamed_113 (by decide) (fun c_12 => ?_) (fun c_12 => ?_)
              · have hf := ite_f hf c_12
                refine lv_iconst (v := (0 : Int32)) hx hb dX12_isNamed_120 (by decide) ?_
                have e90 := Option.some.inj hf
                subst e90
                exact x_zret X Y rfl dX12_isNamed_121
              · have hf := ite_t hf c_12
                refine lv_iconst (v := (1 : Int32)) hx hb dX12_isNamed_116 (by decide) ?_
                refine lv_goto (tgt := 121) hx hb dX12_isNamed_117 (by decide) ?_
                have e90 := Option.some.inj hf
                subst e90
                exact x_zret X Y rfl dX12_isNamed_121
def M_isNamed_33 (x1 : Int32) (x2 : Int32) (x3 : Int32) (x4 : Int32) (x5 : Int32) (tx : Nat → Int32) (td : Int32) (ap : Int32) (sp : Int32) (iw : Int32) : Option (Int32) := M_isNamed_34 x1 x2 x3 x4 x5 (0 : Int32) tx td ap sp iw
set_option maxHeartbeats 4000000 in
set_option maxRecDepth 100000 in
theorem bM_isNamed_33 {Am : Nat → Nat} {w : Nat → Int32} {kp : Nat → Int32} {tx : Nat → Int32} {td : Int32} {rf : Nat → Int32} {fa : Int64} {fb : Int64} {ap : Int32} {sp : Int32} {iw : Int32} {ig : Int32} {nu : Nat → Int32} {lst : Int32} {lwo : Int32} {hh : Int64} {r0 : Int32} {x1 : Int32} {x2 : Int32} {x3 : Int32} {x4 : Int32} {x5 : Int32} (X : Cx Γ p s m args meth c RX12 cX12_isNamed 7 (some .boolean) w0) (hf : M_isNamed_33 x1 x2 x3 x4 x5 tx td ap sp iw = some r0) (Y : Wd Γ w0 s (WM Γ Am w kp tx td rf fa fb ap sp iw ig nu lst lwo hh) H locs) (hl : lv_has ls 7 [(0, .ref (Am 0)), (1, .int x1), (2, .int x2), (3, .int x3), (4, .int x4), (5, .int x5)]) : W p l e rmM_isNamed s m args below meth c H locs 0 0 (EI Γ below args s w0 (WM Γ Am w kp tx td rf fa fb ap sp iw ig nu lst lwo hh) r0) (F0 m 33 ls []) := by
  have hx := X.1
  have hb := X.2.1
  refine lv_iconst (v := (0 : Int32)) hx hb dX12_isNamed_33 (by decide) ?_
  exact bM_isNamed_34 X hf Y (lv_sub hl [0, 1, 2, 3, 4, 5] rfl)
def M_isNamed_26 (x1 : Int32) (x2 : Int32) (x3 : Int32) (x4 : Int32) (x5 : Int32) (y0 : Int32) (y1 : Int32) (tx : Nat → Int32) (td : Int32) (ap : Int32) (sp : Int32) (iw : Int32) : Option (Int32) := if y1 = y0 then (M_isNamed_34 x1 x2 x3 x4 x5 (1 : Int32) tx td ap sp iw) else (M_isNamed_33 x1 x2 x3 x4 x5 tx td ap sp iw)
set_option maxHeartbeats 4000000 in
set_option maxRecDepth 100000 in
theorem bM_isNamed_26 {Am : Nat → Nat} {w : Nat → Int32} {kp : Nat → Int32} {tx : Nat → Int32} {td : Int32} {rf : Nat → Int32} {fa : Int64} {fb : Int64} {ap : Int32} {sp : Int32} {iw : Int32} {ig : Int32} {nu : Nat → Int32} {lst : Int32} {lwo : Int32} {hh : Int64} {r0 : Int32} {x1 : Int32} {x2 : Int32} {x3 : Int32} {x4 : Int32} {x5 : Int32} {y0 : Int32} {y1 : Int32} (X : Cx Γ p s m args meth c RX12 cX12_isNamed 7 (some .boolean) w0) (hf : M_isNamed_26 x1 x2 x3 x4 x5 y0 y1 tx td ap sp iw = some r0) (Y : Wd Γ w0 s (WM Γ Am w kp tx td rf fa fb ap sp iw ig nu lst lwo hh) H locs) (hl : lv_has ls 7 [(0, .ref (Am 0)), (1, .int x1), (2, .int x2), (3, .int x3), (4, .int x4), (5, .int x5)]) : W p l e rmM_isNamed s m args below meth c H locs 0 0 (EI Γ below args s w0 (WM Γ Am w kp tx td rf fa fb ap sp iw ig nu lst lwo hh) r0) (F0 m 26 ls [.int y0, .int y1]) := by
  have hx := X.1
  have hb := X.2.1
  refine lv_icmp_ne (tgt := 33) hx hb dX12_isNamed_26 (by decide) (fun c_1 => ?_) (fun c_1 => ?_)
  · have hf := ite_f hf c_1
    exact bM_isNamed_33 X hf Y (lv_sub hl [0, 1, 2, 3, 4, 5] rfl)
  · have hf := ite_t hf c_1
    refine lv_iconst (v := (1 : Int32)) hx hb dX12_isNamed_29 (by decide) ?_
    refine lv_goto (tgt := 34) hx hb dX12_isNamed_30 (by decide) ?_
    exact bM_isNamed_34 X hf Y (lv_sub hl [0, 1, 2, 3, 4, 5] rfl)
def M_isNamed (x1 : Int32) (x2 : Int32) (x3 : Int32) (x4 : Int32) (x5 : Int32) (tx : Nat → Int32) (td : Int32) (ap : Int32) (sp : Int32) (iw : Int32) : Option (Int32) := if iw = 0 then (M_isNamed_33 x1 x2 x3 x4 x5 tx td ap sp iw) else (if x5 = 0 then (M_isNamed_26 x1 x2 x3 x4 x5 (4 : Int32) (ap - sp) tx td ap sp iw) else (M_isNamed_26 x1 x2 x3 x4 x5 (5 : Int32) (ap - sp) tx td ap sp iw))
set_option maxHeartbeats 4000000 in
set_option maxRecDepth 100000 in
theorem bM_isNamed_e {Am : Nat → Nat} {w : Nat → Int32} {kp : Nat → Int32} {tx : Nat → Int32} {td : Int32} {rf : Nat → Int32} {fa : Int64} {fb : Int64} {ap : Int32} {sp : Int32} {iw : Int32} {ig : Int32} {nu : Nat → Int32} {lst : Int32} {lwo : Int32} {hh : Int64} {r0 : Int32} {x1 : Int32} {x2 : Int32} {x3 : Int32} {x4 : Int32} {x5 : Int32} (X : Cx Γ p s m args meth c RX12 cX12_isNamed 7 (some .boolean) w0) (hf : M_isNamed x1 x2 x3 x4 x5 tx td ap sp iw = some r0) (Y : Wd Γ w0 s (WM Γ Am w kp tx td rf fa fb ap sp iw ig nu lst lwo hh) H locs) (hl : lv_has ls 7 [(0, .ref (Am 0)), (1, .int x1), (2, .int x2), (3, .int x3), (4, .int x4), (5, .int x5)]) : W p l e rmM_isNamed s m args below meth c H locs 0 0 (EI Γ below args s w0 (WM Γ Am w kp tx td rf fa fb ap sp iw ig nu lst lwo hh) r0) (F0 m 0 ls []) := by
  have hx := X.1
  have hb := X.2.1
  refine lv_aload_n hx hb dX12_isNamed_0 rfl (lv_at hl 0 rfl) ?_
  refine gfX12_98 X Y (v := .int iw) 0 rfl rfl dX12_isNamed_1 ?_
  refine lv_if_eq (tgt := 33) hx hb dX12_isNamed_4 (by decide) (fun c_1 => ?_) (fun c_1 => ?_)
  · have hf := ite_t hf c_1
    exact bM_isNamed_33 X hf Y (lv_sub hl [0, 1, 2, 3, 4, 5] rfl)
  · have hf := ite_f hf c_1
    refine lv_aload_n hx hb dX12_isNamed_7 rfl (lv_at hl 0 rfl) ?_
    refine gfX12_84 X Y (v := .int ap) 0 rfl rfl dX12_isNamed_8 ?_
    refine lv_aload_n hx hb dX12_isNamed_11 rfl (lv_at hl 0 rfl) ?_
    refine gfX12_91 X Y (v := .int sp) 0 rfl rfl dX12_isNamed_12 ?_
    refine lv_isub hx hb dX12_isNamed_15 ?_
    refine lv_iload hx hb dX12_isNamed_16 (lv_at hl 5 rfl) ?_
    refine lv_if_ne (tgt := 25) hx hb dX12_isNamed_18 (by decide) (fun c_2 => ?_) (fun c_2 => ?_)
    · have hf := ite_f hf c_2
      refine lv_iconst (v := (5 : Int32)) hx hb dX12_isNamed_25 (by decide) ?_
      exact bM_isNamed_26 X hf Y (lv_sub hl [0, 1, 2, 3, 4, 5] rfl)
    · have hf := ite_t hf c_2
      refine lv_iconst (v := (4 : Int32)) hx hb dX12_isNamed_21 (by decide) ?_
      refine lv_goto (tgt := 26) hx hb dX12_isNamed_22 (by decide) ?_
      exact bM_isNamed_26 X hf Y (lv_sub hl [0, 1, 2, 3, 4, 5] rfl)
theorem cM_isNamed {l : Launch} {Γ : Gm} {Am : Nat → Nat} {w : Nat → Int32} {kp : Nat → Int32} {tx : Nat → Int32} {td : Int32} {rf : Nat → Int32} {fa : Int64} {fb : Int64} {ap : Int32} {sp : Int32} {iw : Int32} {ig : Int32} {nu : Nat → Int32} {lst : Int32} {lwo : Int32} {hh : Int64} {r0 : Int32} {x1 : Int32} {x2 : Int32} {x3 : Int32} {x4 : Int32} {x5 : Int32} (h : M_isNamed x1 x2 x3 x4 x5 tx td ap sp iw = some r0) : CI l Γ yX12_isNamed (Cond.code yX12_isNamed cX12_isNamed 7 (some .boolean) :: GW) rmM_isNamed [.ref (Am 0), .int x1, .int x2, .int x3, .int x4, .int x5] (WM Γ Am w kp tx td rf fa fb ap sp iw ig nu lst lwo hh) (WM Γ Am w kp tx td rf fa fb ap sp iw ig nu lst lwo hh) r0 := ofBody (Qc := QcI Γ _ _ r0) (by decide) (Nat.le_of_ble_eq_true rfl) (fun p e s m below meth c ls _ X Y hl => bM_isNamed_e X h Y hl)
theorem dmX12_isNamedV : yX12_isNamed.cls = RX12 ∧ yX12_isNamed.cls ≠ "java/lang/invoke/MethodHandle" ∧ yX12_isNamed.cls ≠ "java/lang/invoke/VarHandle" ∧ (parseMethodDescriptor yX12_isNamed.desc).map (fun d => d.parameters.length) = some 5 := by decide +kernel
theorem cwX12_109 (X : Cx Γ p s m args meth c RX12 cc nL ret w0) (hR : rmM_isNamed.frames + 1 ≤ R.frames ∧ 8 + (7 + 11) + rmM_isNamed.locals ≤ R.locals) : CallW R s args RX12 RX12 109 yX12_isNamed cX12_isNamed 7 (some .boolean) (Cond.code yX12_isNamed cX12_isNamed 7 (some .boolean) :: GW) rmM_isNamed 0 0 5 := cw_V X kw58 kw59 kw60 kw4 kw61 dmX12_isNamedV rfl rfl hR
def rmM_wordNow : Room := { frames := 2, cells := 0, slots := 0, locals := 47 }
def M_wordNow (tx : Nat → Int32) (td : Int32) (ap : Int32) (sp : Int32) (iw : Int32) : Option (Int32) := bd1 (M_isNamed (115 : Int32) (104 : Int32) (105 : Int32) (112 : Int32) (0 : Int32) tx td ap sp iw) (fun (r_1 : Int32) => if r_1 = 0 then (bd1 (M_isNamed (103 : Int32) (111 : Int32) (111 : Int32) (100 : Int32) (115 : Int32) tx td ap sp iw) (fun (r_3 : Int32) => if r_3 = 0 then (bd1 (M_isNamed (111 : Int32) (118 : Int32) (101 : Int32) (114 : Int32) (0 : Int32) tx td ap sp iw) (fun (r_5 : Int32) => if r_5 = 0 then (some (-1 : Int32)) else (some (2 : Int32)))) else (some (1 : Int32)))) else (some (0 : Int32)))
set_option maxHeartbeats 4000000 in
set_option maxRecDepth 100000 in
theorem bM_wordNow_e {Am : Nat → Nat} {w : Nat → Int32} {kp : Nat → Int32} {tx : Nat → Int32} {td : Int32} {rf : Nat → Int32} {fa : Int64} {fb : Int64} {ap : Int32} {sp : Int32} {iw : Int32} {ig : Int32} {nu : Nat → Int32} {lst : Int32} {lwo : Int32} {hh : Int64} {r0 : Int32} (X : Cx Γ p s m args meth c RX12 cX12_wordNow 1 (some .int) w0) (hf : M_wordNow tx td ap sp iw = some r0) (Y : Wd Γ w0 s (WM Γ Am w kp tx td rf fa fb ap sp iw ig nu lst lwo hh) H locs) (hl : lv_has ls 1 [(0, .ref (Am 0))]) : W p l e rmM_wordNow s m args below meth c H locs 0 0 (EI Γ below args s w0 (WM Γ Am w kp tx td rf fa fb ap sp iw ig nu lst lwo hh) r0) (F0 m 0 ls []) := by
  have hx := X.1
  have hb := X.2.1
  refine lv_aload_n hx hb dX12_wordNow_0 rfl (lv_at hl 0 rfl) ?_
  refine lv_bipush (v := (115 : Int32)) hx hb dX12_wordNow_1 (by decide) ?_
  refine lv_bipush (v := (104 : Int32)) hx hb dX12_wordNow_3 (by decide) ?_
  refine lv_bipush (v := (105 : Int32)) hx hb dX12_wordNow_5 (by decide) ?_
  refine lv_bipush (v := (112 : Int32)) hx hb dX12_wordNow_7 (by decide) ?_
  refine lv_iconst (v := (0 : Int32)) hx hb dX12_wordNow_9 (by decide) ?_
  obtain ⟨r_1, ho_9, hf⟩ := bd1_some hf
  refine t_i Y (bkS Y) (r_V (As := [.int (115 : Int32), .int (104 : Int32), .int (105 : Int32), .int (112 : Int32), .int (0 : Int32)]) (rest := []) X (c_preS X Y) (cM_isNamed ho_9) (cwX12_109 X (by decide)) (va_recv X.K Y.1 (q := (RX12, TX12, 15)) (q0 := 0) (ci := 12) rfl rfl) rfl hl.1 (Nat.le_of_ble_eq_true rfl) rfl dX12_wordNow_10 ⟨Nat.zero_le _, Nat.zero_le _⟩) (fun H locs Y => ?_)
  refine lv_if_eq (tgt := 18) hx hb dX12_wordNow_13 (by decide) (fun c_2 => ?_) (fun c_2 => ?_)
  · have hf := ite_t hf c_2
    refine lv_aload_n hx hb dX12_wordNow_18 rfl (lv_at hl 0 rfl) ?_
    refine lv_bipush (v := (103 : Int32)) hx hb dX12_wordNow_19 (by decide) ?_
    refine lv_bipush (v := (111 : Int32)) hx hb dX12_wordNow_21 (by decide) ?_
    refine lv_bipush (v := (111 : Int32)) hx hb dX12_wordNow_23 (by decide) ?_
    refine lv_bipush (v := (100 : Int32)) hx hb dX12_wordNow_25 (by decide) ?_
    refine lv_bipush (v := (115 : Int32)) hx hb dX12_wordNow_27 (by decide) ?_
    obtain ⟨r_3, ho_8, hf⟩ := bd1_some hf
    refine t_i Y (bkS Y) (r_V (As := [.int (103 : Int32), .int (111 : Int32), .int (111 : Int32), .int (100 : Int32), .int (115 : Int32)]) (rest := []) X (c_preS X Y) (cM_isNamed ho_8) (cwX12_109 X (by decide)) (va_recv X.K Y.1 (q := (RX12, TX12, 15)) (q0 := 0) (ci := 12) rfl rfl) rfl hl.1 (Nat.le_of_ble_eq_true rfl) rfl dX12_wordNow_29 ⟨Nat.zero_le _, Nat.zero_le _⟩) (fun H locs Y => ?_)
    refine lv_if_eq (tgt := 39) hx hb dX12_wordNow_32 (by decide) (fun c_4 => ?_) (fun c_4 => ?_)
    · have hf := ite_t hf c_4
      refine lv_aload_n hx hb dX12_wordNow_39 rfl (lv_at hl 0 rfl) ?_
      refine lv_bipush (v := (111 : Int32)) hx hb dX12_wordNow_40 (by decide) ?_
      refine lv_bipush (v := (118 : Int32)) hx hb dX12_wordNow_42 (by decide) ?_
      refine lv_bipush (v := (101 : Int32)) hx hb dX12_wordNow_44 (by decide) ?_
      refine lv_bipush (v := (114 : Int32)) hx hb dX12_wordNow_46 (by decide) ?_
      refine lv_iconst (v := (0 : Int32)) hx hb dX12_wordNow_48 (by decide) ?_
      obtain ⟨r_5, ho_7, hf⟩ := bd1_some hf
      refine t_i Y (bkS Y) (r_V (As := [.int (111 : Int32), .int (118 : Int32), .int (101 : Int32), .int (114 : Int32), .int (0 : Int32)]) (rest := []) X (c_preS X Y) (cM_isNamed ho_7) (cwX12_109 X (by decide)) (va_recv X.K Y.1 (q := (RX12, TX12, 15)) (q0 := 0) (ci := 12) rfl rfl) rfl hl.1 (Nat.le_of_ble_eq_true rfl) rfl dX12_wordNow_49 ⟨Nat.zero_le _, Nat.zero_le _⟩) (fun H locs Y => ?_)
      refine lv_if_eq (tgt := 59) hx hb dX12_wordNow_52 (by decide) (fun c_6 => ?_) (fun c_6 => ?_)
      · have hf := ite_t hf c_6
        refine lv_iconst (v := (-1 : Int32)) hx hb dX12_wordNow_59 (by decide) ?_
        have e90 := Option.some.inj hf
        subst e90
        exact x_iret X Y dX12_wordNow_60
      · have hf := ite_f hf c_6
        refine lv_iconst (v := (2 : Int32)) hx hb dX12_wordNow_55 (by decide) ?_
        refine lv_goto (tgt := 60) hx hb dX12_wordNow_56 (by decide) ?_
        have e90 := Option.some.inj hf
        subst e90
        exact x_iret X Y dX12_wordNow_60
    · have hf := ite_f hf c_4
      refine lv_iconst (v := (1 : Int32)) hx hb dX12_wordNow_35 (by decide) ?_
      refine lv_goto (tgt := 60) hx hb dX12_wordNow_36 (by decide) ?_
      have e90 := Option.some.inj hf
      subst e90
      exact x_iret X Y dX12_wordNow_60
  · have hf := ite_f hf c_2
    refine lv_iconst (v := (0 : Int32)) hx hb dX12_wordNow_16 (by decide) ?_
    have e90 := Option.some.inj hf
    subst e90
    exact x_iret X Y dX12_wordNow_17
theorem cM_wordNow {l : Launch} {Γ : Gm} {Am : Nat → Nat} {w : Nat → Int32} {kp : Nat → Int32} {tx : Nat → Int32} {td : Int32} {rf : Nat → Int32} {fa : Int64} {fb : Int64} {ap : Int32} {sp : Int32} {iw : Int32} {ig : Int32} {nu : Nat → Int32} {lst : Int32} {lwo : Int32} {hh : Int64} {r0 : Int32} (h : M_wordNow tx td ap sp iw = some r0) : CI l Γ yX12_wordNow (Cond.code yX12_wordNow cX12_wordNow 1 (some .int) :: GW) rmM_wordNow [.ref (Am 0)] (WM Γ Am w kp tx td rf fa fb ap sp iw ig nu lst lwo hh) (WM Γ Am w kp tx td rf fa fb ap sp iw ig nu lst lwo hh) r0 := ofBody (Qc := QcI Γ _ _ r0) (by decide) (Nat.le_of_ble_eq_true rfl) (fun p e s m below meth c ls _ X Y hl => bM_wordNow_e X h Y hl)
theorem dmX12_tokenV : yX12_token.cls = RX12 ∧ yX12_token.cls ≠ "java/lang/invoke/MethodHandle" ∧ yX12_token.cls ≠ "java/lang/invoke/VarHandle" ∧ (parseMethodDescriptor yX12_token.desc).map (fun d => d.parameters.length) = some 0 := by decide +kernel
theorem cwX12_112 (X : Cx Γ p s m args meth c RX12 cc nL ret w0) (hR : rmM_token.frames + 1 ≤ R.frames ∧ 8 + (1 + 11) + rmM_token.locals ≤ R.locals) : CallW R s args RX12 RX12 112 yX12_token cX12_token 1 none (Cond.code yX12_token cX12_token 1 none :: GW) rmM_token 0 0 0 := cw_V X kw62 kw63 kw64 kw4 kw65 dmX12_tokenV rfl rfl hR
theorem gfX12_27 (X : Cx Γ p s m args meth c RX12 cc nL ret w0) (Y : Wd Γ w0 s ws H locs) {v : Value} (q0 : Nat) {fs : List Value} (he : ws[q0]? = some (a, .inr (12, fs))) (hv : fs[11]? = some v) (hdg : decode cc pc = .ok (.getfield 27, 3)) (kk : W p l e R s m args below meth c H locs cells slots Q (F0 m (pc + 3) ls (v :: rest))) : W p l e R s m args below meth c H locs cells slots Q (F0 m pc ls (.ref a :: rest)) := x_get X Y iX12 rfl 11 (by decide) rfl kw66 q0 he hv hdg kk
def rmM_takes : Room := { frames := 2, cells := 0, slots := 0, locals := 45 }
def M_takes_35 (rc35 : Int32 → Int32 → Int32 → Int32 → Int32 → (Nat → Int32) → Int32 → Int32 → Int32 → Int32 → Int32 → (Nat → Int32) → Option (Int32 × Int32 × Int32 × Int32 × Int32 × (Nat → Int32))) (x1 : Int32) (x2 : Int32) (x3 : Int32) (x4 : Int32) (x5 : Int32) (tx : Nat → Int32) (td : Int32) (ap : Int32) (sp : Int32) (iw : Int32) (ig : Int32) (nu : Nat → Int32) : Option (Int32 × Int32 × Int32 × Int32 × Int32 × (Nat → Int32)) := if ap ≤ x5 then (ck (inb x1 6) (bnd (upd nu x1.toNatClampNeg x4) (fun (nu_2 : Nat → Int32) => bd1 (M_in x4.toInt64 x2.toInt64 x3.toInt64) (fun (r_4 : Int32) => ck (bo r_4) (some (r_4, ap, sp, iw, ig, nu_2)))))) else (bd1 (M_byteAt x5 tx td) (fun (r_7 : Int32) => bnd ((((10 : Int32) * x4) + r_7) - (48 : Int32)) (fun (x4_8 : Int32) => bnd (x5 + (1 : Int32)) (fun (x5_9 : Int32) => rc35 x1 x2 x3 x4_8 x5_9 tx td ap sp iw ig nu))))
set_option maxHeartbeats 4000000 in
set_option maxRecDepth 100000 in
theorem bM_takes_35 {Am : Nat → Nat} {w : Nat → Int32} {kp : Nat → Int32} {tx : Nat → Int32} {td : Int32} {rf : Nat → Int32} {fa : Int64} {fb : Int64} {ap : Int32} {sp : Int32} {iw : Int32} {ig : Int32} {nu : Nat → Int32} {lst : Int32} {lwo : Int32} {hh : Int64} {ap_z : Int32} {sp_z : Int32} {iw_z : Int32} {ig_z : Int32} {nu_z : Nat → Int32} {r0 : Int32} {x1 : Int32} {x2 : Int32} {x3 : Int32} {x4 : Int32} {x5 : Int32} {rc35 : Int32 → Int32 → Int32 → Int32 → Int32 → (Nat → Int32) → Int32 → Int32 → Int32 → Int32 → Int32 → (Nat → Int32) → Option (Int32 × Int32 × Int32 × Int32 × Int32 × (Nat → Int32))} (X : Cx Γ p s m args meth c RX12 cX12_takes 6 (some .boolean) w0) (h35 : ∀ (x1 : Int32) (x2 : Int32) (x3 : Int32) (x4 : Int32) (x5 : Int32) (tx : Nat → Int32) (td : Int32) (ap : Int32) (sp : Int32) (iw : Int32) (ig : Int32) (nu : Nat → Int32), rc35 x1 x2 x3 x4 x5 tx td ap sp iw ig nu = some (r0, ap_z, sp_z, iw_z, ig_z, nu_z) → ∀ (H : Heap) (locs : List Loc) (ls : Array Slot), Wd Γ w0 s (WM Γ Am w kp tx td rf fa fb ap sp iw ig nu lst lwo hh) H locs → lv_has ls 6 [(0, .ref (Am 0)), (1, .int x1), (2, .int x2), (3, .int x3), (4, .int x4), (5, .int x5)] → W p l e rmM_takes s m args below meth c H locs 0 0 (EI Γ below args s w0 (WM Γ Am w kp tx td rf fa fb ap_z sp_z iw_z ig_z nu_z lst lwo hh) r0) (F0 m 35 ls [])) (hf : M_takes_35 rc35 x1 x2 x3 x4 x5 tx td ap sp iw ig nu = some (r0, ap_z, sp_z, iw_z, ig_z, nu_z)) (Y : Wd Γ w0 s (WM Γ Am w kp tx td rf fa fb ap sp iw ig nu lst lwo hh) H locs) (hl : lv_has ls 6 [(0, .ref (Am 0)), (1, .int x1), (2, .int x2), (3, .int x3), (4, .int x4), (5, .int x5)]) : W p l e rmM_takes s m args below meth c H locs 0 0 (EI Γ below args s w0 (WM Γ Am w kp tx td rf fa fb ap_z sp_z iw_z ig_z nu_z lst lwo hh) r0) (F0 m 35 ls []) := by
  have hx := X.1
  have hb := X.2.1
  refine lv_iload hx hb dX12_takes_35 (lv_at hl 5 rfl) ?_
  refine lv_aload_n hx hb dX12_takes_37 rfl (lv_at hl 0 rfl) ?_
  refine gfX12_84 X Y (v := .int ap) 0 rfl rfl dX12_takes_38 ?_
  refine lv_icmp_ge (tgt := 67) hx hb dX12_takes_41 (by decide) (fun c_1 => ?_) (fun c_1 => ?_)
  · have hf := ite_t hf c_1
    refine lv_aload_n hx hb dX12_takes_67 rfl (lv_at hl 0 rfl) ?_
    refine gfX12_27 X Y (v := .ref (Am 5)) 0 rfl rfl dX12_takes_68 ?_
    refine lv_iload_n hx hb dX12_takes_71 rfl (lv_at hl 1 rfl) ?_
    refine lv_iload hx hb dX12_takes_72 (lv_at hl 4 rfl) ?_
    obtain ⟨hi_3, hf⟩ := ck_some hf
    obtain ⟨nu_2, e_nu_2⟩ : ∃ z : Nat → Int32, z = (upd nu x1.toNatClampNeg x4) := ⟨_, rfl⟩
    have hf := bnd_eq hf e_nu_2
    refine x_iast X Y 5 rfl rfl hi_3 (ws' := (WM Γ Am w kp tx td rf fa fb ap sp iw ig nu_2 lst lwo hh)) (by subst e_nu_2; rfl) dX12_takes_74 (fun H locs Y => ?_)
    refine lv_iload hx hb dX12_takes_75 (lv_at hl 4 rfl) ?_
    refine lv_i2l (v := x4.toInt64) hx hb dX12_takes_77 rfl ?_
    refine lv_iload_n hx hb dX12_takes_78 rfl (lv_at hl 2 rfl) ?_
    refine lv_i2l (v := x2.toInt64) hx hb dX12_takes_79 rfl ?_
    refine lv_iload_n hx hb dX12_takes_80 rfl (lv_at hl 3 rfl) ?_
    refine lv_i2l (v := x3.toInt64) hx hb dX12_takes_81 rfl ?_
    obtain ⟨r_4, ho_6, hf⟩ := bd1_some hf
    refine t_i Y (bk0 Y) (r_S (As := [.long x4.toInt64, .long x2.toInt64, .long x3.toInt64]) (rest := []) X (c_pre0 X Y) (cM_in ho_6) (cwX12_34 X (by decide)) rfl hl.1 (Nat.le_of_ble_eq_true rfl) rfl dX12_takes_82 ⟨Nat.zero_le _, Nat.zero_le _⟩) (fun H locs Y => ?_)
    obtain ⟨hz_5, hf⟩ := ck_some hf
    obtain ⟨e90, e91, e92, e93, e94, e95⟩ := sj6 hf
    subst e90
    subst e91
    subst e92
    subst e93
    subst e94
    subst e95
    exact x_zret X Y (bo_nar hz_5) dX12_takes_85
  · have hf := ite_f hf c_1
    refine lv_bipush (v := (10 : Int32)) hx hb dX12_takes_44 (by decide) ?_
    refine lv_iload hx hb dX12_takes_46 (lv_at hl 4 rfl) ?_
    refine lv_imul hx hb dX12_takes_48 ?_
    refine lv_aload_n hx hb dX12_takes_49 rfl (lv_at hl 0 rfl) ?_
    refine lv_iload hx hb dX12_takes_50 (lv_at hl 5 rfl) ?_
    obtain ⟨r_7, ho_10, hf⟩ := bd1_some hf
    refine t_i Y (bkS Y) (r_V (As := [.int x5]) (rest := [.int ((10 : Int32) * x4)]) X (c_preS X Y) (cM_byteAt ho_10) (cwX12_87 X (by decide)) (va_recv X.K Y.1 (q := (RX12, TX12, 15)) (q0 := 0) (ci := 12) rfl rfl) rfl hl.1 (Nat.le_of_ble_eq_true rfl) rfl dX12_takes_52 ⟨Nat.zero_le _, Nat.zero_le _⟩) (fun H locs Y => ?_)
    refine lv_iadd hx hb dX12_takes_55 ?_
    refine lv_bipush (v := (48 : Int32)) hx hb dX12_takes_56 (by decide) ?_
    refine lv_isub hx hb dX12_takes_58 ?_
    refine lv_topi (fun x4_8 e_x4_8 => ?_)
    have hf := bnd_eq hf e_x4_8
    refine lv_istore (lv' := [(4, .int x4_8), (0, .ref (Am 0)), (1, .int x1), (2, .int x2), (3, .int x3), (5, .int x5)]) hx hb dX12_takes_59 hl (by decide) rfl (fun ls hl => ?_)
    obtain ⟨x5_9, e_x5_9⟩ : ∃ z : Int32, z = (x5 + (1 : Int32)) := ⟨_, rfl⟩
    have hf := bnd_eq hf e_x5_9
    refine lv_iinc (v := x5_9) (lv' := [(5, .int x5_9), (4, .int x4_8), (0, .ref (Am 0)), (1, .int x1), (2, .int x2), (3, .int x3)]) hx hb dX12_takes_61 hl (k := 5) rfl (by rw [e_x5_9]; rfl) (by decide) rfl (fun ls hl => ?_)
    refine lv_goto (tgt := 35) hx hb dX12_takes_64 (by decide) ?_
    exact h35 _ _ _ _ _ _ _ _ _ _ _ _ hf _ _ _ Y (lv_sub hl [2, 3, 4, 5, 1, 0] rfl)
def M_takes_L35 : Nat → Int32 → Int32 → Int32 → Int32 → Int32 → (Nat → Int32) → Int32 → Int32 → Int32 → Int32 → Int32 → (Nat → Int32) → Option (Int32 × Int32 × Int32 × Int32 × Int32 × (Nat → Int32))
  | 0, _, _, _, _, _, _, _, _, _, _, _, _ => none
  | n + 1, x1, x2, x3, x4, x5, tx, td, ap, sp, iw, ig, nu => M_takes_35 (M_takes_L35 n) x1 x2 x3 x4 x5 tx td ap sp iw ig nu
theorem lM_takes_35 {Am : Nat → Nat} {w : Nat → Int32} {kp : Nat → Int32} {rf : Nat → Int32} {fa : Int64} {fb : Int64} {lst : Int32} {lwo : Int32} {hh : Int64} {ap_z : Int32} {sp_z : Int32} {iw_z : Int32} {ig_z : Int32} {nu_z : Nat → Int32} {r0 : Int32} (X : Cx Γ p s m args meth c RX12 cX12_takes 6 (some .boolean) w0) : ∀ (n : Nat) (x1 : Int32) (x2 : Int32) (x3 : Int32) (x4 : Int32) (x5 : Int32) (tx : Nat → Int32) (td : Int32) (ap : Int32) (sp : Int32) (iw : Int32) (ig : Int32) (nu : Nat → Int32), M_takes_L35 n x1 x2 x3 x4 x5 tx td ap sp iw ig nu = some (r0, ap_z, sp_z, iw_z, ig_z, nu_z) → ∀ (H : Heap) (locs : List Loc) (ls : Array Slot), Wd Γ w0 s (WM Γ Am w kp tx td rf fa fb ap sp iw ig nu lst lwo hh) H locs → lv_has ls 6 [(0, .ref (Am 0)), (1, .int x1), (2, .int x2), (3, .int x3), (4, .int x4), (5, .int x5)] → W p l e rmM_takes s m args below meth c H locs 0 0 (EI Γ below args s w0 (WM Γ Am w kp tx td rf fa fb ap_z sp_z iw_z ig_z nu_z lst lwo hh) r0) (F0 m 35 ls []) := by
  intro n
  induction n with
  | zero => intro x1 x2 x3 x4 x5 tx td ap sp iw ig nu hf; cases hf
  | succ n ih => intro x1 x2 x3 x4 x5 tx td ap sp iw ig nu hf H locs ls Y hl; exact bM_takes_35 X ih hf Y hl
def M_takes (x1 : Int32) (x2 : Int32) (x3 : Int32) (tx : Nat → Int32) (td : Int32) (ap : Int32) (sp : Int32) (iw : Int32) (ig : Int32) (nu : Nat → Int32) : Option (Int32 × Int32 × Int32 × Int32 × Int32 × (Nat → Int32)) := bd4 (M_token tx td ap sp iw ig) (fun (ap_1 : Int32) (sp_2 : Int32) (iw_3 : Int32) (ig_4 : Int32) => if ig_4 = 0 then (some ((0 : Int32), ap_1, sp_2, iw_3, ig_4, nu)) else (if (ap_1 - sp_2) ≤ (3 : Int32) then (M_takes_L35 FU x1 x2 x3 (0 : Int32) sp_2 tx td ap_1 sp_2 iw_3 ig_4 nu) else (some ((0 : Int32), ap_1, sp_2, iw_3, ig_4, nu))))
set_option maxHeartbeats 4000000 in
set_option maxRecDepth 100000 in
theorem bM_takes_e {Am : Nat → Nat} {w : Nat → Int32} {kp : Nat → Int32} {tx : Nat → Int32} {td : Int32} {rf : Nat → Int32} {fa : Int64} {fb : Int64} {ap : Int32} {sp : Int32} {iw : Int32} {ig : Int32} {nu : Nat → Int32} {lst : Int32} {lwo : Int32} {hh : Int64} {ap_z : Int32} {sp_z : Int32} {iw_z : Int32} {ig_z : Int32} {nu_z : Nat → Int32} {r0 : Int32} {x1 : Int32} {x2 : Int32} {x3 : Int32} (X : Cx Γ p s m args meth c RX12 cX12_takes 6 (some .boolean) w0) (hf : M_takes x1 x2 x3 tx td ap sp iw ig nu = some (r0, ap_z, sp_z, iw_z, ig_z, nu_z)) (Y : Wd Γ w0 s (WM Γ Am w kp tx td rf fa fb ap sp iw ig nu lst lwo hh) H locs) (hl : lv_has ls 6 [(0, .ref (Am 0)), (1, .int x1), (2, .int x2), (3, .int x3)]) : W p l e rmM_takes s m args below meth c H locs 0 0 (EI Γ below args s w0 (WM Γ Am w kp tx td rf fa fb ap_z sp_z iw_z ig_z nu_z lst lwo hh) r0) (F0 m 0 ls []) := by
  have hx := X.1
  have hb := X.2.1
  refine lv_aload_n hx hb dX12_takes_0 rfl (lv_at hl 0 rfl) ?_
  obtain ⟨ap_1, sp_2, iw_3, ig_4, ho_7, hf⟩ := bd4_some hf
  refine t_v Y (bkS Y) (r_V (As := []) (rest := []) X (c_preS X Y) (cM_token ho_7) (cwX12_112 X (by decide)) (va_recv X.K Y.1 (q := (RX12, TX12, 15)) (q0 := 0) (ci := 12) rfl rfl) rfl hl.1 (Nat.le_of_ble_eq_true rfl) rfl dX12_takes_1 ⟨Nat.zero_le _, Nat.zero_le _⟩) (fun H locs Y => ?_)
  refine lv_aload_n hx hb dX12_takes_4 rfl (lv_at hl 0 rfl) ?_
  refine gfX12_106 X Y (v := .int ig_4) 0 rfl rfl dX12_takes_5 ?_
  refine lv_if_eq (tgt := 24) hx hb dX12_takes_8 (by decide) (fun c_5 => ?_) (fun c_5 => ?_)
  · have hf := ite_t hf c_5
    refine lv_iconst (v := (0 : Int32)) hx hb dX12_takes_24 (by decide) ?_
    obtain ⟨e90, e91, e92, e93, e94, e95⟩ := sj6 hf
    subst e90
    subst e91
    subst e92
    subst e93
    subst e94
    subst e95
    exact x_zret X Y rfl dX12_takes_25
  · have hf := ite_f hf c_5
    refine lv_aload_n hx hb dX12_takes_11 rfl (lv_at hl 0 rfl) ?_
    refine gfX12_84 X Y (v := .int ap_1) 0 rfl rfl dX12_takes_12 ?_
    refine lv_aload_n hx hb dX12_takes_15 rfl (lv_at hl 0 rfl) ?_
    refine gfX12_91 X Y (v := .int sp_2) 0 rfl rfl dX12_takes_16 ?_
    refine lv_isub hx hb dX12_takes_19 ?_
    refine lv_iconst (v := (3 : Int32)) hx hb dX12_takes_20 (by decide) ?_
    refine lv_icmp_le (tgt := 26) hx hb dX12_takes_21 (by decide) (fun c_6 => ?_) (fun c_6 => ?_)
    · have hf := ite_t hf c_6
      refine lv_iconst (v := (0 : Int32)) hx hb dX12_takes_26 (by decide) ?_
      refine lv_istore (lv' := [(4, .int (0 : Int32)), (0, .ref (Am 0)), (1, .int x1), (2, .int x2), (3, .int x3)]) hx hb dX12_takes_27 hl (by decide) rfl (fun ls hl => ?_)
      refine lv_aload_n hx hb dX12_takes_29 rfl (lv_at hl 1 rfl) ?_
      refine gfX12_91 X Y (v := .int sp_2) 0 rfl rfl dX12_takes_30 ?_
      refine lv_istore (lv' := [(5, .int sp_2), (4, .int (0 : Int32)), (0, .ref (Am 0)), (1, .int x1), (2, .int x2), (3, .int x3)]) hx hb dX12_takes_33 hl (by decide) rfl (fun ls hl => ?_)
      exact lM_takes_35 X _ _ _ _ _ _ _ _ _ _ _ _ _ hf _ _ _ Y (lv_sub hl [2, 3, 4, 5, 1, 0] rfl)
    · have hf := ite_f hf c_6
      refine lv_iconst (v := (0 : Int32)) hx hb dX12_takes_24 (by decide) ?_
      obtain ⟨e90, e91, e92, e93, e94, e95⟩ := sj6 hf
      subst e90
      subst e91
      subst e92
      subst e93
      subst e94
      subst e95
      exact x_zret X Y rfl dX12_takes_25
theorem cM_takes {l : Launch} {Γ : Gm} {Am : Nat → Nat} {w : Nat → Int32} {kp : Nat → Int32} {tx : Nat → Int32} {td : Int32} {rf : Nat → Int32} {fa : Int64} {fb : Int64} {ap : Int32} {sp : Int32} {iw : Int32} {ig : Int32} {nu : Nat → Int32} {lst : Int32} {lwo : Int32} {hh : Int64} {ap_z : Int32} {sp_z : Int32} {iw_z : Int32} {ig_z : Int32} {nu_z : Nat → Int32} {r0 : Int32} {x1 : Int32} {x2 : Int32} {x3 : Int32} (h : M_takes x1 x2 x3 tx td ap sp iw ig nu = some (r0, ap_z, sp_z, iw_z, ig_z, nu_z)) : CI l Γ yX12_takes (Cond.code yX12_takes cX12_takes 6 (some .boolean) :: GW) rmM_takes [.ref (Am 0), .int x1, .int x2, .int x3] (WM Γ Am w kp tx td rf fa fb ap sp iw ig nu lst lwo hh) (WM Γ Am w kp tx td rf fa fb ap_z sp_z iw_z ig_z nu_z lst lwo hh) r0 := ofBody (Qc := QcI Γ _ _ r0) (by decide) (Nat.le_of_ble_eq_true rfl) (fun p e s m below meth c ls _ X Y hl => bM_takes_e X h Y hl)
theorem dmX12_takesV : yX12_takes.cls = RX12 ∧ yX12_takes.cls ≠ "java/lang/invoke/MethodHandle" ∧ yX12_takes.cls ≠ "java/lang/invoke/VarHandle" ∧ (parseMethodDescriptor yX12_takes.desc).map (fun d => d.parameters.length) = some 3 := by decide +kernel
theorem cwX12_115 (X : Cx Γ p s m args meth c RX12 cc nL ret w0) (hR : rmM_takes.frames + 1 ≤ R.frames ∧ 8 + (6 + 11) + rmM_takes.locals ≤ R.locals) : CallW R s args RX12 RX12 115 yX12_takes cX12_takes 6 (some .boolean) (Cond.code yX12_takes cX12_takes 6 (some .boolean) :: GW) rmM_takes 0 0 3 := cw_V X kw67 kw68 kw69 kw4 kw70 dmX12_takesV rfl rfl hR
def rmM_takesShip : Room := { frames := 3, cells := 0, slots := 0, locals := 70 }
def M_takesShip (w : Nat → Int32) (tx : Nat → Int32) (td : Int32) (ap : Int32) (sp : Int32) (iw : Int32) (ig : Int32) (nu : Nat → Int32) : Option (Int32 × (Nat → Int32) × Int32 × Int32 × Int32 × Int32 × (Nat → Int32)) := bd6 (M_takes (0 : Int32) (0 : Int32) (99 : Int32) tx td ap sp iw ig nu) (fun (r_1 : Int32) (ap_2 : Int32) (sp_3 : Int32) (iw_4 : Int32) (ig_5 : Int32) (nu_6 : Nat → Int32) => if r_1 = 0 then (some ((0 : Int32), w, ap_2, sp_3, iw_4, ig_5, nu_6)) else (bd6 (M_takes (1 : Int32) (0 : Int32) (200 : Int32) tx td ap_2 sp_3 iw_4 ig_5 nu_6) (fun (r_8 : Int32) (ap_9 : Int32) (sp_10 : Int32) (iw_11 : Int32) (ig_12 : Int32) (nu_13 : Nat → Int32) => if r_8 = 0 then (some ((0 : Int32), w, ap_9, sp_10, iw_11, ig_12, nu_13)) else (bnd (nu_13 0) (fun (v_15 : Int32) => bnd (upd w 241 v_15) (fun (w_16 : Nat → Int32) => bnd (nu_13 1) (fun (v_17 : Int32) => bnd (upd w_16 242 v_17) (fun (w_18 : Nat → Int32) => some ((1 : Int32), w_18, ap_9, sp_10, iw_11, ig_12, nu_13)))))))))
set_option maxHeartbeats 4000000 in
set_option maxRecDepth 100000 in
theorem bM_takesShip_e {Am : Nat → Nat} {w : Nat → Int32} {kp : Nat → Int32} {tx : Nat → Int32} {td : Int32} {rf : Nat → Int32} {fa : Int64} {fb : Int64} {ap : Int32} {sp : Int32} {iw : Int32} {ig : Int32} {nu : Nat → Int32} {lst : Int32} {lwo : Int32} {hh : Int64} {w_z : Nat → Int32} {ap_z : Int32} {sp_z : Int32} {iw_z : Int32} {ig_z : Int32} {nu_z : Nat → Int32} {r0 : Int32} (X : Cx Γ p s m args meth c RX12 cX12_takesShip 1 (some .boolean) w0) (hf : M_takesShip w tx td ap sp iw ig nu = some (r0, w_z, ap_z, sp_z, iw_z, ig_z, nu_z)) (Y : Wd Γ w0 s (WM Γ Am w kp tx td rf fa fb ap sp iw ig nu lst lwo hh) H locs) (hl : lv_has ls 1 [(0, .ref (Am 0))]) : W p l e rmM_takesShip s m args below meth c H locs 0 0 (EI Γ below args s w0 (WM Γ Am w_z kp tx td rf fa fb ap_z sp_z iw_z ig_z nu_z lst lwo hh) r0) (F0 m 0 ls []) := by
  have hx := X.1
  have hb := X.2.1
  refine lv_aload_n hx hb dX12_takesShip_0 rfl (lv_at hl 0 rfl) ?_
  refine lv_iconst (v := (0 : Int32)) hx hb dX12_takesShip_1 (by decide) ?_
  refine lv_iconst (v := (0 : Int32)) hx hb dX12_takesShip_2 (by decide) ?_
  refine lv_bipush (v := (99 : Int32)) hx hb dX12_takesShip_3 (by decide) ?_
  obtain ⟨r_1, ap_2, sp_3, iw_4, ig_5, nu_6, ho_20, hf⟩ := bd6_some hf
  refine t_i Y (bkS Y) (r_V (As := [.int (0 : Int32), .int (0 : Int32), .int (99 : Int32)]) (rest := []) X (c_preS X Y) (cM_takes ho_20) (cwX12_115 X (by decide)) (va_recv X.K Y.1 (q := (RX12, TX12, 15)) (q0 := 0) (ci := 12) rfl rfl) rfl hl.1 (Nat.le_of_ble_eq_true rfl) rfl dX12_takesShip_5 ⟨Nat.zero_le _, Nat.zero_le _⟩) (fun H locs Y => ?_)
  refine lv_if_eq (tgt := 23) hx hb dX12_takesShip_8 (by decide) (fun c_7 => ?_) (fun c_7 => ?_)
  · have hf := ite_t hf c_7
    refine lv_iconst (v := (0 : Int32)) hx hb dX12_takesShip_23 (by decide) ?_
    obtain ⟨e90, e91, e92, e93, e94, e95, e96⟩ := sj7 hf
    subst e90
    subst e91
    subst e92
    subst e93
    subst e94
    subst e95
    subst e96
    exact x_zret X Y rfl dX12_takesShip_24
  · have hf := ite_f hf c_7
    refine lv_aload_n hx hb dX12_takesShip_11 rfl (lv_at hl 0 rfl) ?_
    refine lv_iconst (v := (1 : Int32)) hx hb dX12_takesShip_12 (by decide) ?_
    refine lv_iconst (v := (0 : Int32)) hx hb dX12_takesShip_13 (by decide) ?_
    refine lv_sipush (v := (200 : Int32)) hx hb dX12_takesShip_14 (by decide) ?_
    obtain ⟨r_8, ap_9, sp_10, iw_11, ig_12, nu_13, ho_19, hf⟩ := bd6_some hf
    refine t_i Y (bkS Y) (r_V (As := [.int (1 : Int32), .int (0 : Int32), .int (200 : Int32)]) (rest := []) X (c_preS X Y) (cM_takes ho_19) (cwX12_115 X (by decide)) (va_recv X.K Y.1 (q := (RX12, TX12, 15)) (q0 := 0) (ci := 12) rfl rfl) rfl hl.1 (Nat.le_of_ble_eq_true rfl) rfl dX12_takesShip_17 ⟨Nat.zero_le _, Nat.zero_le _⟩) (fun H locs Y => ?_)
    refine lv_if_ne (tgt := 25) hx hb dX12_takesShip_20 (by decide) (fun c_14 => ?_) (fun c_14 => ?_)
    · have hf := ite_f hf c_14
      refine lv_aload_n hx hb dX12_takesShip_25 rfl (lv_at hl 0 rfl) ?_
      refine gfX12_7 X Y (v := .ref (Am 1)) 0 rfl rfl dX12_takesShip_26 ?_
      refine lv_sipush (v := (241 : Int32)) hx hb dX12_takesShip_29 (by decide) ?_
      refine lv_aload_n hx hb dX12_takesShip_32 rfl (lv_at hl 0 rfl) ?_
      refine gfX12_27 X Y (v := .ref (Am 5)) 0 rfl rfl dX12_takesShip_33 ?_
      refine lv_iconst (v := (0 : Int32)) hx hb dX12_takesShip_36 (by decide) ?_
      refine x_iald X Y 5 rfl (j := 0) rfl rfl dX12_takesShip_37 ?_
      refine lv_topi (fun v_15 e_v_15 => ?_)
      have hf := bnd_eq hf e_v_15
      obtain ⟨w_16, e_w_16⟩ : ∃ z : Nat → Int32, z = (upd w 241 v_15) := ⟨_, rfl⟩
      have hf := bnd_eq hf e_w_16
      refine x_iast X Y 1 rfl (j := 241) rfl rfl (ws' := (WM Γ Am w_16 kp tx td rf fa fb ap_9 sp_10 iw_11 ig_12 nu_13 lst lwo hh)) (by subst e_w_16; rfl) dX12_takesShip_38 (fun H locs Y => ?_)
      refine lv_aload_n hx hb dX12_takesShip_39 rfl (lv_at hl 0 rfl) ?_
      refine gfX12_7 X Y (v := .ref (Am 1)) 0 rfl rfl dX12_takesShip_40 ?_
      refine lv_sipush (v := (242 : Int32)) hx hb dX12_takesShip_43 (by decide) ?_
      refine lv_aload_n hx hb dX12_takesShip_46 rfl (lv_at hl 0 rfl) ?_
      refine gfX12_27 X Y (v := .ref (Am 5)) 0 rfl rfl dX12_takesShip_47 ?_
      refine lv_iconst (v := (1 : Int32)) hx hb dX12_takesShip_50 (by decide) ?_
      refine x_iald X Y 5 rfl (j := 1) rfl rfl dX12_takesShip_51 ?_
      refine lv_topi (fun v_17 e_v_17 => ?_)
      have hf := bnd_eq hf e_v_17
      obtain ⟨w_18, e_w_18⟩ : ∃ z : Nat → Int32, z = (upd w_16 242 v_17) := ⟨_, rfl⟩
      have hf := bnd_eq hf e_w_18
      refine x_iast X Y 1 rfl (j := 242) rfl rfl (ws' := (WM Γ Am w_18 kp tx td rf fa fb ap_9 sp_10 iw_11 ig_12 nu_13 lst lwo hh)) (by subst e_w_18; rfl) dX12_takesShip_52 (fun H locs Y => ?_)
      refine lv_iconst (v := (1 : Int32)) hx hb dX12_takesShip_53 (by decide) ?_
      obtain ⟨e90, e91, e92, e93, e94, e95, e96⟩ := sj7 hf
      subst e90
      subst e91
      subst e92
      subst e93
      subst e94
      subst e95
      subst e96
      exact x_zret X Y rfl dX12_takesShip_54
    · have hf := ite_t hf c_14
      refine lv_iconst (v := (0 : Int32)) hx hb dX12_takesShip_23 (by decide) ?_
      obtain ⟨e90, e91, e92, e93, e94, e95, e96⟩ := sj7 hf
      subst e90
      subst e91
      subst e92
      subst e93
      subst e94
      subst e95
      subst e96
      exact x_zret X Y rfl dX12_takesShip_24
theorem cM_takesShip {l : Launch} {Γ : Gm} {Am : Nat → Nat} {w : Nat → Int32} {kp : Nat → Int32} {tx : Nat → Int32} {td : Int32} {rf : Nat → Int32} {fa : Int64} {fb : Int64} {ap : Int32} {sp : Int32} {iw : Int32} {ig : Int32} {nu : Nat → Int32} {lst : Int32} {lwo : Int32} {hh : Int64} {w_z : Nat → Int32} {ap_z : Int32} {sp_z : Int32} {iw_z : Int32} {ig_z : Int32} {nu_z : Nat → Int32} {r0 : Int32} (h : M_takesShip w tx td ap sp iw ig nu = some (r0, w_z, ap_z, sp_z, iw_z, ig_z, nu_z)) : CI l Γ yX12_takesShip (Cond.code yX12_takesShip cX12_takesShip 1 (some .boolean) :: GW) rmM_takesShip [.ref (Am 0)] (WM Γ Am w kp tx td rf fa fb ap sp iw ig nu lst lwo hh) (WM Γ Am w_z kp tx td rf fa fb ap_z sp_z iw_z ig_z nu_z lst lwo hh) r0 := ofBody (Qc := QcI Γ _ _ r0) (by decide) (Nat.le_of_ble_eq_true rfl) (fun p e s m below meth c ls _ X Y hl => bM_takesShip_e X h Y hl)
def rmM_takesGoods : Room := { frames := 3, cells := 0, slots := 0, locals := 70 }
def M_takesGoods (w : Nat → Int32) (tx : Nat → Int32) (td : Int32) (ap : Int32) (sp : Int32) (iw : Int32) (ig : Int32) (nu : Nat → Int32) : Option (Int32 × (Nat → Int32) × Int32 × Int32 × Int32 × Int32 × (Nat → Int32)) := if (w 240) = (8 : Int32) then (some ((0 : Int32), w, ap, sp, iw, ig, nu)) else (bd6 (M_takes (0 : Int32) (0 : Int32) (5 : Int32) tx td ap sp iw ig nu) (fun (r_2 : Int32) (ap_3 : Int32) (sp_4 : Int32) (iw_5 : Int32) (ig_6 : Int32) (nu_7 : Nat → Int32) => if r_2 = 0 then (some ((0 : Int32), w, ap_3, sp_4, iw_5, ig_6, nu_7)) else (bd6 (M_takes (1 : Int32) (0 : Int32) (3 : Int32) tx td ap_3 sp_4 iw_5 ig_6 nu_7) (fun (r_9 : Int32) (ap_10 : Int32) (sp_11 : Int32) (iw_12 : Int32) (ig_13 : Int32) (nu_14 : Nat → Int32) => if r_9 = 0 then (some ((0 : Int32), w, ap_10, sp_11, iw_12, ig_13, nu_14)) else (bd6 (M_takes (2 : Int32) (0 : Int32) (2 : Int32) tx td ap_10 sp_11 iw_12 ig_13 nu_14) (fun (r_16 : Int32) (ap_17 : Int32) (sp_18 : Int32) (iw_19 : Int32) (ig_20 : Int32) (nu_21 : Nat → Int32) => if r_16 = 0 then (some ((0 : Int32), w, ap_17, sp_18, iw_19, ig_20, nu_21)) else (bd6 (M_takes (3 : Int32) (1 : Int32) (40 : Int32) tx td ap_17 sp_18 iw_19 ig_20 nu_21) (fun (r_23 : Int32) (ap_24 : Int32) (sp_25 : Int32) (iw_26 : Int32) (ig_27 : Int32) (nu_28 : Nat → Int32) => if r_23 = 0 then (some ((0 : Int32), w, ap_24, sp_25, iw_26, ig_27, nu_28)) else (bd6 (M_takes (4 : Int32) (0 : Int32) (60 : Int32) tx td ap_24 sp_25 iw_26 ig_27 nu_28) (fun (r_30 : Int32) (ap_31 : Int32) (sp_32 : Int32) (iw_33 : Int32) (ig_34 : Int32) (nu_35 : Nat → Int32) => if r_30 = 0 then (some ((0 : Int32), w, ap_31, sp_32, iw_33, ig_34, nu_35)) else (bd6 (M_takes (5 : Int32) (0 : Int32) (60 : Int32) tx td ap_31 sp_32 iw_33 ig_34 nu_35) (fun (r_37 : Int32) (ap_38 : Int32) (sp_39 : Int32) (iw_40 : Int32) (ig_41 : Int32) (nu_42 : Nat → Int32) => if r_37 = 0 then (some ((0 : Int32), w, ap_38, sp_39, iw_40, ig_41, nu_42)) else (bd2 (M_adds (240 : Int32) (nu_42 0) (nu_42 1) (nu_42 2) (nu_42 3) (nu_42 4) (nu_42 5) w) (fun (r_44 : Int32) (w_45 : Nat → Int32) => if r_44 < 0 then (some ((0 : Int32), w_45, ap_38, sp_39, iw_40, ig_41, nu_42)) else (some ((1 : Int32), w_45, ap_38, sp_39, iw_40, ig_41, nu_42))))))))))))))))
set_option maxHeartbeats 4000000 in
set_option maxRecDepth 100000 in
theorem bM_takesGoods_e {Am : Nat → Nat} {w : Nat → Int32} {kp : Nat → Int32} {tx : Nat → Int32} {td : Int32} {rf : Nat → Int32} {fa : Int64} {fb : Int64} {ap : Int32} {sp : Int32} {iw : Int32} {ig : Int32} {nu : Nat → Int32} {lst : Int32} {lwo : Int32} {hh : Int64} {w_z : Nat → Int32} {ap_z : Int32} {sp_z : Int32} {iw_z : Int32} {ig_z : Int32} {nu_z : Nat → Int32} {r0 : Int32} (X : Cx Γ p s m args meth c RX12 cX12_takesGoods 1 (some .boolean) w0) (hf : M_takesGoods w tx td ap sp iw ig nu = some (r0, w_z, ap_z, sp_z, iw_z, ig_z, nu_z)) (Y : Wd Γ w0 s (WM Γ Am w kp tx td rf fa fb ap sp iw ig nu lst lwo hh) H locs) (hl : lv_has ls 1 [(0, .ref (Am 0))]) : W p l e rmM_takesGoods s m args below meth c H locs 0 0 (EI Γ below args s w0 (WM Γ Am w_z kp tx td rf fa fb ap_z sp_z iw_z ig_z nu_z lst lwo hh) r0) (F0 m 0 ls []) := by
  have hx := X.1
  have hb := X.2.1
  refine lv_aload_n hx hb dX12_takesGoods_0 rfl (lv_at hl 0 rfl) ?_
  refine gfX12_7 X Y (v := .ref (Am 1)) 0 rfl rfl dX12_takesGoods_1 ?_
  refine lv_sipush (v := (240 : Int32)) hx hb dX12_takesGoods_4 (by decide) ?_
  refine x_iald X Y 1 rfl (j := 240) rfl rfl dX12_takesGoods_7 ?_
  refine lv_bipush (v := (8 : Int32)) hx hb dX12_takesGoods_8 (by decide) ?_
  refine lv_icmp_eq (tgt := 76) hx hb dX12_takesGoods_10 (by decide) (fun c_1 => ?_) (fun c_1 => ?_)
  · have hf := ite_t hf c_1
    refine lv_iconst (v := (0 : Int32)) hx hb dX12_takesGoods_76 (by decide) ?_
    obtain ⟨e90, e91, e92, e93, e94, e95, e96⟩ := sj7 hf
    subst e90
    subst e91
    subst e92
    subst e93
    subst e94
    subst e95
    subst e96
    exact x_zret X Y rfl dX12_takesGoods_77
  · have hf := ite_f hf c_1
    refine lv_aload_n hx hb dX12_takesGoods_13 rfl (lv_at hl 0 rfl) ?_
    refine lv_iconst (v := (0 : Int32)) hx hb dX12_takesGoods_14 (by decide) ?_
    refine lv_iconst (v := (0 : Int32)) hx hb dX12_takesGoods_15 (by decide) ?_
    refine lv_iconst (v := (5 : Int32)) hx hb dX12_takesGoods_16 (by decide) ?_
    obtain ⟨r_2, ap_3, sp_4, iw_5, ig_6, nu_7, ho_53, hf⟩ := bd6_some hf
    refine t_i Y (bkS Y) (r_V (As := [.int (0 : Int32), .int (0 : Int32), .int (5 : Int32)]) (rest := []) X (c_preS X Y) (cM_takes ho_53) (cwX12_115 X (by decide)) (va_recv X.K Y.1 (q := (RX12, TX12, 15)) (q0 := 0) (ci := 12) rfl rfl) rfl hl.1 (Nat.le_of_ble_eq_true rfl) rfl dX12_takesGoods_17 ⟨Nat.zero_le _, Nat.zero_le _⟩) (fun H locs Y => ?_)
    refine lv_if_eq (tgt := 76) hx hb dX12_takesGoods_20 (by decide) (fun c_8 => ?_) (fun c_8 => ?_)
    · have hf := ite_t hf c_8
      refine lv_iconst (v := (0 : Int32)) hx hb dX12_takesGoods_76 (by decide) ?_
      obtain ⟨e90, e91, e92, e93, e94, e95, e96⟩ := sj7 hf
      subst e90
      subst e91
      subst e92
      subst e93
      subst e94
      subst e95
      subst e96
      exact x_zret X Y rfl dX12_takesGoods_77
    · have hf := ite_f hf c_8
      refine lv_aload_n hx hb dX12_takesGoods_23 rfl (lv_at hl 0 rfl) ?_
      refine lv_iconst (v := (1 : Int32)) hx hb dX12_takesGoods_24 (by decide) ?_
      refine lv_iconst (v := (0 : Int32)) hx hb dX12_takesGoods_25 (by decide) ?_
      refine lv_iconst (v := (3 : Int32)) hx hb dX12_takesGoods_26 (by decide) ?_
      obtain ⟨r_9, ap_10, sp_11, iw_12, ig_13, nu_14, ho_52, hf⟩ := bd6_some hf
      refine t_i Y (bkS Y) (r_V (As := [.int (1 : Int32), .int (0 : Int32), .int (3 : Int32)]) (rest := []) X (c_preS X Y) (cM_takes ho_52) (cwX12_115 X (by decide)) (va_recv X.K Y.1 (q := (RX12, TX12, 15)) (q0 := 0) (ci := 12) rfl rfl) rfl hl.1 (Nat.le_of_ble_eq_true rfl) rfl dX12_takesGoods_27 ⟨Nat.zero_le _, Nat.zero_le _⟩) (fun H locs Y => ?_)
      refine lv_if_eq (tgt := 76) hx hb dX12_takesGoods_30 (by decide) (fun c_15 => ?_) (fun c_15 => ?_)
      · have hf := ite_t hf c_15
        refine lv_iconst (v := (0 : Int32)) hx hb dX12_takesGoods_76 (by decide) ?_
        obtain ⟨e90, e91, e92, e93, e94, e95, e96⟩ := sj7 hf
        subst e90
        subst e91
        subst e92
        subst e93
        subst e94
        subst e95
        subst e96
        exact x_zret X Y rfl dX12_takesGoods_77
      · have hf := ite_f hf c_15
        refine lv_aload_n hx hb dX12_takesGoods_33 rfl (lv_at hl 0 rfl) ?_
        refine lv_iconst (v := (2 : Int32)) hx hb dX12_takesGoods_34 (by decide) ?_
        refine lv_iconst (v := (0 : Int32)) hx hb dX12_takesGoods_35 (by decide) ?_
        refine lv_iconst (v := (2 : Int32)) hx hb dX12_takesGoods_36 (by decide) ?_
        obtain ⟨r_16, ap_17, sp_18, iw_19, ig_20, nu_21, ho_51, hf⟩ := bd6_some hf
        refine t_i Y (bkS Y) (r_V (As := [.int (2 : Int32), .int (0 : Int32), .int (2 : Int32)]) (rest := []) X (c_preS X Y) (cM_takes ho_51) (cwX12_115 X (by decide)) (va_recv X.K Y.1 (q := (RX12, TX12, 15)) (q0 := 0) (ci := 12) rfl rfl) rfl hl.1 (Nat.le_of_ble_eq_true rfl) rfl dX12_takesGoods_37 ⟨Nat.zero_le _, Nat.zero_le _⟩) (fun H locs Y => ?_)
        refine lv_if_eq (tgt := 76) hx hb dX12_takesGoods_40 (by decide) (fun c_22 => ?_) (fun c_22 => ?_)
        · have hf := ite_t hf c_22
          refine lv_iconst (v := (0 : Int32)) hx hb dX12_takesGoods_76 (by decide) ?_
          obtain ⟨e90, e91, e92, e93, e94, e95, e96⟩ := sj7 hf
          subst e90
          subst e91
          subst e92
          subst e93
          subst e94
          subst e95
          subst e96
          exact x_zret X Y rfl dX12_takesGoods_77
        · have hf := ite_f hf c_22
          refine lv_aload_n hx hb dX12_takesGoods_43 rfl (lv_at hl 0 rfl) ?_
          refine lv_iconst (v := (3 : Int32)) hx hb dX12_takesGoods_44 (by decide) ?_
          refine lv_iconst (v := (1 : Int32)) hx hb dX12_takesGoods_45 (by decide) ?_
          refine lv_bipush (v := (40 : Int32)) hx hb dX12_takesGoods_46 (by decide) ?_
          obtain ⟨r_23, ap_24, sp_25, iw_26, ig_27, nu_28, ho_50, hf⟩ := bd6_some hf
          refine t_i Y (bkS Y) (r_V (As := [.int (3 : Int32), .int (1 : Int32), .int (40 : Int32)]) (rest := []) X (c_preS X Y) (cM_takes ho_50) (cwX12_115 X (by decide)) (va_recv X.K Y.1 (q := (RX12, TX12, 15)) (q0 := 0) (ci := 12) rfl rfl) rfl hl.1 (Nat.le_of_ble_eq_true rfl) rfl dX12_takesGoods_48 ⟨Nat.zero_le _, Nat.zero_le _⟩) (fun H locs Y => ?_)
          refine lv_if_eq (tgt := 76) hx hb dX12_takesGoods_51 (by decide) (fun c_29 => ?_) (fun c_29 => ?_)
          · have hf := ite_t hf c_29
            refine lv_iconst (v := (0 : Int32)) hx hb dX12_takesGoods_76 (by decide) ?_
            obtain ⟨e90, e91, e92, e93, e94, e95, e96⟩ := sj7 hf
            subst e90
            subst e91
            subst e92
            subst e93
            subst e94
            subst e95
            subst e96
            exact x_zret X Y rfl dX12_takesGoods_77
          · have hf := ite_f hf c_29
            refine lv_aload_n hx hb dX12_takesGoods_54 rfl (lv_at hl 0 rfl) ?_
            refine lv_iconst (v := (4 : Int32)) hx hb dX12_takesGoods_55 (by decide) ?_
            refine lv_iconst (v := (0 : Int32)) hx hb dX12_takesGoods_56 (by decide) ?_
            refine lv_bipush (v := (60 : Int32)) hx hb dX12_takesGoods_57 (by decide) ?_
            obtain ⟨r_30, ap_31, sp_32, iw_33, ig_34, nu_35, ho_49, hf⟩ := bd6_some hf
            refine t_i Y (bkS Y) (r_V (As := [.int (4 : Int32), .int (0 : Int32), .int (60 : Int32)]) (rest := []) X (c_preS X Y) (cM_takes ho_49) (cwX12_115 X (by decide)) (va_recv X.K Y.1 (q := (RX12, TX12, 15)) (q0 := 0) (ci := 12) rfl rfl) rfl hl.1 (Nat.le_of_ble_eq_true rfl) rfl dX12_takesGoods_59 ⟨Nat.zero_le _, Nat.zero_le _⟩) (fun H locs Y => ?_)
            refine lv_if_eq (tgt := 76) hx hb dX12_takesGoods_62 (by decide) (fun c_36 => ?_) (fun c_36 => ?_)
            · have hf := ite_t hf c_36
              refine lv_iconst (v := (0 : Int32)) hx hb dX12_takesGoods_76 (by decide) ?_
              obtain ⟨e90, e91, e92, e93, e94, e95, e96⟩ := sj7 hf
              subst e90
              subst e91
              subst e92
              subst e93
              subst e94
              subst e95
              subst e96
              exact x_zret X Y rfl dX12_takesGoods_77
            · have hf := ite_f hf c_36
              refine lv_aload_n hx hb dX12_takesGoods_65 rfl (lv_at hl 0 rfl) ?_
              refine lv_iconst (v := (5 : Int32)) hx hb dX12_takesGoods_66 (by decide) ?_
              refine lv_iconst (v := (0 : Int32)) hx hb dX12_takesGoods_67 (by decide) ?_
              refine lv_bipush (v := (60 : Int32)) hx hb dX12_takesGoods_68 (by decide) ?_
              obtain ⟨r_37, ap_38, sp_39, iw_40, ig_41, nu_42, ho_48, hf⟩ := bd6_some hf
              refine t_i Y (bkS Y) (r_V (As := [.int (5 : Int32), .int (0 : Int32), .int (60 : Int32)]) (rest := []) X (c_preS X Y) (cM_takes ho_48) (cwX12_115 X (by decide)) (va_recv X.K Y.1 (q := (RX12, TX12, 15)) (q0 := 0) (ci := 12) rfl rfl) rfl hl.1 (Nat.le_of_ble_eq_true rfl) rfl dX12_takesGoods_70 ⟨Nat.zero_le _, Nat.zero_le _⟩) (fun H locs Y => ?_)
              refine lv_if_ne (tgt := 78) hx hb dX12_takesGoods_73 (by decide) (fun c_43 => ?_) (fun c_43 => ?_)
              · have hf := ite_f hf c_43
                refine lv_aload_n hx hb dX12_takesGoods_78 rfl (lv_at hl 0 rfl) ?_
                refine lv_sipush (v := (240 : Int32)) hx hb dX12_takesGoods_79 (by decide) ?_
                refine lv_aload_n hx hb dX12_takesGoods_82 rfl (lv_at hl 0 rfl) ?_
                refine gfX12_27 X Y (v := .ref (Am 5)) 0 rfl rfl dX12_takesGoods_83 ?_
                refine lv_iconst (v := (0 : Int32)) hx hb dX12_takesGoods_86 (by decide) ?_
                refine x_iald X Y 5 rfl (j := 0) rfl rfl dX12_takesGoods_87 ?_
                refine lv_aload_n hx hb dX12_takesGoods_88 rfl (lv_at hl 0 rfl) ?_
                refine gfX12_27 X Y (v := .ref (Am 5)) 0 rfl rfl dX12_takesGoods_89 ?_
                refine lv_iconst (v := (1 : Int32)) hx hb dX12_takesGoods_92 (by decide) ?_
                refine x_iald X Y 5 rfl (j := 1) rfl rfl dX12_takesGoods_93 ?_
                refine lv_aload_n hx hb dX12_takesGoods_94 rfl (lv_at hl 0 rfl) ?_
                refine gfX12_27 X Y (v := .ref (Am 5)) 0 rfl rfl dX12_takesGoods_95 ?_
                refine lv_iconst (v := (2 : Int32)) hx hb dX12_takesGoods_98 (by decide) ?_
                refine x_iald X Y 5 rfl (j := 2) rfl rfl dX12_takesGoods_99 ?_
                refine lv_aload_n hx hb dX12_takesGoods_100 rfl (lv_at hl 0 rfl) ?_
                refine gfX12_27 X Y (v := .ref (Am 5)) 0 rfl rfl dX12_takesGoods_101 ?_
                refine lv_iconst (v := (3 : Int32)) hx hb dX12_takesGoods_104 (by decide) ?_
                refine x_iald X Y 5 rfl (j := 3) rfl rfl dX12_takesGoods_105 ?_
                refine lv_aload_n hx hb dX12_takesGoods_106 rfl (lv_at hl 0 rfl) ?_
                refine gfX12_27 X Y (v := .ref (Am 5)) 0 rfl rfl dX12_takesGoods_107 ?_
                refine lv_iconst (v := (4 : Int32)) hx hb dX12_takesGoods_110 (by decide) ?_
                refine x_iald X Y 5 rfl (j := 4) rfl rfl dX12_takesGoods_111 ?_
                refine lv_aload_n hx hb dX12_takesGoods_112 rfl (lv_at hl 0 rfl) ?_
                refine gfX12_27 X Y (v := .ref (Am 5)) 0 rfl rfl dX12_takesGoods_113 ?_
                refine lv_iconst (v := (5 : Int32)) hx hb dX12_takesGoods_116 (by decide) ?_
                refine x_iald X Y 5 rfl (j := 5) rfl rfl dX12_takesGoods_117 ?_
                obtain ⟨r_44, w_45, ho_47, hf⟩ := bd2_some hf
                refine t_i Y (bkS Y) (r_V (As := [.int (240 : Int32), .int (nu_42 0), .int (nu_42 1), .int (nu_42 2), .int (nu_42 3), .int (nu_42 4), .int (nu_42 5)]) (rest := []) X (c_preS X Y) (cM_adds ho_47) (cwX12_63 X (by decide)) (va_recv X.K Y.1 (q := (RX12, TX12, 15)) (q0 := 0) (ci := 12) rfl rfl) rfl hl.1 (Nat.le_of_ble_eq_true rfl) rfl dX12_takesGoods_118 ⟨Nat.zero_le _, Nat.zero_le _⟩) (fun H locs Y => ?_)
                refine lv_if_lt (tgt := 128) hx hb dX12_takesGoods_121 (by decide) (fun c_46 => ?_) (fun c_46 => ?_)
                · have hf := ite_t hf c_46
                  refine lv_iconst (v := (0 : Int32)) hx hb dX12_takesGoods_128 (by decide) ?_
                  obtain ⟨e90, e91, e92, e93, e94, e95, e96⟩ := sj7 hf
                  subst e90
                  subst e91
                  subst e92
                  subst e93
                  subst e94
                  subst e95
                  subst e96
                  exact x_zret X Y rfl dX12_takesGoods_129
                · have hf := ite_f hf c_46
                  refine lv_iconst (v := (1 : Int32)) hx hb dX12_takesGoods_124 (by decide) ?_
                  refine lv_goto (tgt := 129) hx hb dX12_takesGoods_125 (by decide) ?_
                  obtain ⟨e90, e91, e92, e93, e94, e95, e96⟩ := sj7 hf
                  subst e90
                  subst e91
                  subst e92
                  subst e93
                  subst e94
                  subst e95
                  subst e96
                  exact x_zret X Y rfl dX12_takesGoods_129
              · have hf := ite_t hf c_43
                refine lv_iconst (v := (0 : Int32)) hx hb dX12_takesGoods_76 (by decide) ?_
                obtain ⟨e90, e91, e92, e93, e94, e95, e96⟩ := sj7 hf
                subst e90
                subst e91
                subst e92
                subst e93
                subst e94
                subst e95
                subst e96
                exact x_zret X Y rfl dX12_takesGoods_77
theorem cM_takesGoods {l : Launch} {Γ : Gm} {Am : Nat → Nat} {w : Nat → Int32} {kp : Nat → Int32} {tx : Nat → Int32} {td : Int32} {rf : Nat → Int32} {fa : Int64} {fb : Int64} {ap : Int32} {sp : Int32} {iw : Int32} {ig : Int32} {nu : Nat → Int32} {lst : Int32} {lwo : Int32} {hh : Int64} {w_z : Nat → Int32} {ap_z : Int32} {sp_z : Int32} {iw_z : Int32} {ig_z : Int32} {nu_z : Nat → Int32} {r0 : Int32} (h : M_takesGoods w tx td ap sp iw ig nu = some (r0, w_z, ap_z, sp_z, iw_z, ig_z, nu_z)) : CI l Γ yX12_takesGoods (Cond.code yX12_takesGoods cX12_takesGoods 1 (some .boolean) :: GW) rmM_takesGoods [.ref (Am 0)] (WM Γ Am w kp tx td rf fa fb ap sp iw ig nu lst lwo hh) (WM Γ Am w_z kp tx td rf fa fb ap_z sp_z iw_z ig_z nu_z lst lwo hh) r0 := ofBody (Qc := QcI Γ _ _ r0) (by decide) (Nat.le_of_ble_eq_true rfl) (fun p e s m below meth c ls _ X Y hl => bM_takesGoods_e X h Y hl)
end
