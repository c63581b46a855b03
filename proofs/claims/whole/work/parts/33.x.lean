section
variable {p : Program} {l : Launch} {e : Env} {R : Room} {s : State} {m : MethodId} {args : Array Value} {below : List Frame} {meth : Method} {c : Code} {H : Heap} {locs : List Loc} {Q : State → Prop} {cells slots : Nat}
variable {Γ : Gm} {own : String} {cc : ByteArray} {nL : Nat} {ret : Option FieldType} {w0 ws ws' : va_W} {pc : Nat} {ls : Array Slot} {rest : List Value} {a : Nat}
theorem gfX6_32 (X : Cx Γ p s m args meth c RX6 cc nL ret w0) (Y : Wd Γ w0 s ws H locs) {v : Value} (q0 : Nat) {fs : List Value} (he : ws[q0]? = some (a, .inr (1, fs))) (hv : fs[3]? = some v) (hdg : decode cc pc = .ok (.getfield 32, 3)) (kk : W p l e R s m args below meth c H locs cells slots Q (F0 m (pc + 3) ls (v :: rest))) : W p l e R s m args below meth c H locs cells slots Q (F0 m pc ls (.ref a :: rest)) := x_getN X Y iX1 rfl 3 (by decide) rfl kw401 q0 he hv hdg kk
def rmQ_findStowed : Room := { frames := 4, cells := 0, slots := 0, locals := 98 }
def Q_findStowed (x2 : Int32) (x3 : Int32) (x4 : Int32) (qhe : Nat → Int32) (qbi : Nat → Int32) (qhv : Nat → Int32) (qwo : Nat → Int32) (qts : Int32) (qbb : Int32) (qbc : Int32) (qbw : Int32) (cca : Int32) (csi : Int32) (cab : Int32) (cfa : Nat → Int32) : Option (Int32 × (Nat → Int32) × (Nat → Int32) × (Nat → Int32) × (Nat → Int32) × Int32 × Int32 × Int32 × Int32) := bd4 (Q_pileUp cab x3 x4 qhe qbi qhv qwo csi cfa) (fun (qhe_1 : Nat → Int32) (qbi_2 : Nat → Int32) (qhv_3 : Nat → Int32) (qwo_4 : Nat → Int32) => bd5 (Q_choose cab x2 qhe_1 qbi_2 qhv_3 qwo_4 qts qbb qbc qbw cca csi cfa) (fun (r_5 : Int32) (qts_6 : Int32) (qbb_7 : Int32) (qbc_8 : Int32) (qbw_9 : Int32) => some (r_5, qhe_1, qbi_2, qhv_3, qwo_4, qts_6, qbb_7, qbc_8, qbw_9)))
set_option maxHeartbeats 4000000 in
set_option maxRecDepth 100000 in
theorem bQ_findStowed_e {Aq : Nat → Nat} {Ac : Nat → Nat} {qhe : Nat → Int32} {qbi : Nat → Int32} {qhv : Nat → Int32} {qwo : Nat → Int32} {qts : Int32} {qbb : Int32} {qbc : Int32} {qbw : Int32} {csw : Int32} {cca : Int32} {csi : Int32} {cab : Int32} {cun : Int32} {csg : Int32} {cfa : Nat → Int32} {che : Nat → Int32} {cst : Nat → Int32} {qhe_z : Nat → Int32} {qbi_z : Nat → Int32} {qhv_z : Nat → Int32} {qwo_z : Nat → Int32} {qts_z : Int32} {qbb_z : Int32} {qbc_z : Int32} {qbw_z : Int32} {r0 : Int32} {x2 : Int32} {x3 : Int32} {x4 : Int32} (X : Cx Γ p s m args meth c RX6 cX6_findStowed 5 (some .int) w0) (hf : Q_findStowed x2 x3 x4 qhe qbi qhv qwo qts qbb qbc qbw cca csi cab cfa = some (r0, qhe_z, qbi_z, qhv_z, qwo_z, qts_z, qbb_z, qbc_z, qbw_z)) (Y : Wd Γ w0 s ((WQ Γ Aq qhe qbi qhv qwo qts qbb qbc qbw) ++ (WC Γ Ac csw cca csi cab cun csg cfa che cst)) H locs) (hl : lv_has ls 5 [(0, .ref (Aq 0)), (1, .ref (Ac 0)), (2, .int x2), (3, .int x3), (4, .int x4)]) : W p l e rmQ_findStowed s m args below meth c H locs 0 0 (EI Γ below args s w0 ((WQ Γ Aq qhe_z qbi_z qhv_z qwo_z qts_z qbb_z qbc_z qbw_z) ++ (WC Γ Ac csw cca csi cab cun csg cfa che cst)) r0) (F0 m 0 ls []) := by
  have hx := X.1
  have hb := X.2.1
  refine lv_aload_n hx hb dX6_findStowed_0 rfl (lv_at hl 0 rfl) ?_
  refine lv_aload_n hx hb dX6_findStowed_1 rfl (lv_at hl 1 rfl) ?_
  refine lv_aload_n hx hb dX6_findStowed_2 rfl (lv_at hl 1 rfl) ?_
  refine gfX6_32 X Y (v := .int cab) 5 rfl rfl dX6_findStowed_3 ?_
  refine lv_iload_n hx hb dX6_findStowed_6 rfl (lv_at hl 3 rfl) ?_
  refine lv_iload hx hb dX6_findStowed_7 (lv_at hl 4 rfl) ?_
  obtain ⟨qhe_1, qbi_2, qhv_3, qwo_4, ho_11, hf⟩ := bd4_some hf
  refine t_v Y (bkS Y) (r_V (As := [.ref (Ac 0), .int cab, .int x3, .int x4]) (rest := []) X (c_preS X Y) (cQ_pileUp ho_11) (cwX6_24 X (by decide)) (va_recv X.K Y.1 (q := (RX6, TX6, 8)) (q0 := 0) (ci := 6) rfl rfl) rfl hl.1 (Nat.le_of_ble_eq_true rfl) rfl dX6_findStowed_9 ⟨Nat.zero_le _, Nat.zero_le _⟩) (fun H locs Y => ?_)
  refine lv_aload_n hx hb dX6_findStowed_12 rfl (lv_at hl 0 rfl) ?_
  refine lv_aload_n hx hb dX6_findStowed_13 rfl (lv_at hl 1 rfl) ?_
  refine lv_aload_n hx hb dX6_findStowed_14 rfl (lv_at hl 1 rfl) ?_
  refine gfX6_32 X Y (v := .int cab) 5 rfl rfl dX6_findStowed_15 ?_
  refine lv_iload_n hx hb dX6_findStowed_18 rfl (lv_at hl 2 rfl) ?_
  obtain ⟨r_5, qts_6, qbb_7, qbc_8, qbw_9, ho_10, hf⟩ := bd5_some hf
  refine t_i Y (bkS Y) (r_V (As := [.ref (Ac 0), .int cab, .int x2]) (rest := []) X (c_preS X Y) (cQ_choose ho_10) (cwX6_28 X (by decide)) (va_recv X.K Y.1 (q := (RX6, TX6, 8)) (q0 := 0) (ci := 6) rfl rfl) rfl hl.1 (Nat.le_of_ble_eq_true rfl) rfl dX6_findStowed_19 ⟨Nat.zero_le _, Nat.zero_le _⟩) (fun H locs Y => ?_)
  obtain ⟨e90, e91, e92, e93, e94, e95, e96, e97, e98⟩ := sj9 hf
  subst e90
  subst e91
  subst e92
  subst e93
  subst e94
  subst e95
  subst e96
  subst e97
  subst e98
  exact x_iret X Y dX6_findStowed_22
theorem cQ_findStowed {l : Launch} {Γ : Gm} {Aq : Nat → Nat} {Ac : Nat → Nat} {qhe : Nat → Int32} {qbi : Nat → Int32} {qhv : Nat → Int32} {qwo : Nat → Int32} {qts : Int32} {qbb : Int32} {qbc : Int32} {qbw : Int32} {csw : Int32} {cca : Int32} {csi : Int32} {cab : Int32} {cun : Int32} {csg : Int32} {cfa : Nat → Int32} {che : Nat → Int32} {cst : Nat → Int32} {qhe_z : Nat → Int32} {qbi_z : Nat → Int32} {qhv_z : Nat → Int32} {qwo_z : Nat → Int32} {qts_z : Int32} {qbb_z : Int32} {qbc_z : Int32} {qbw_z : Int32} {r0 : Int32} {x2 : Int32} {x3 : Int32} {x4 : Int32} (h : Q_findStowed x2 x3 x4 qhe qbi qhv qwo qts qbb qbc qbw cca csi cab cfa = some (r0, qhe_z, qbi_z, qhv_z, qwo_z, qts_z, qbb_z, qbc_z, qbw_z)) : CI l Γ yX6_findStowed (Cond.code yX6_findStowed cX6_findStowed 5 (some .int) :: GW) rmQ_findStowed [.ref (Aq 0), .ref (Ac 0), .int x2, .int x3, .int x4] ((WQ Γ Aq qhe qbi qhv qwo qts qbb qbc qbw) ++ (WC Γ Ac csw cca csi cab cun csg cfa che cst)) ((WQ Γ Aq qhe_z qbi_z qhv_z qwo_z qts_z qbb_z qbc_z qbw_z) ++ (WC Γ Ac csw cca csi cab cun csg cfa che cst)) r0 := ofBody (Qc := QcI Γ _ _ r0) (by decide) (Nat.le_of_ble_eq_true rfl) (fun p e s m below meth c ls _ X Y hl => bQ_findStowed_e X h Y hl)
def rmT_isLetter : Room := { frames := 0, cells := 0, slots := 0, locals := 0 }
def T_isLetter (x0 : Int32) : Option (Int32) := if x0 < (97 : Int32) then (some (0 : Int32)) else (if (122 : Int32) < x0 then (some (0 : Int32)) else (some (1 : Int32)))
set_option maxHeartbeats 4000000 in
set_option maxRecDepth 100000 in
theorem bT_isLetter_e {r0 : Int32} {x0 : Int32} (X : Cx Γ p s m args meth c RX10 cX10_isLetter 1 (some .boolean) w0) (hf : T_isLetter x0 = some r0) (Y : Wd Γ w0 s ([] : va_W) H locs) (hl : lv_has ls 1 [(0, .int x0)]) : W p l e rmT_isLetter s m args below meth c H locs 0 0 (EI Γ below args s w0 ([] : va_W) r0) (F0 m 0 ls []) := by
  have hx := X.1
  have hb := X.2.1
  refine lv_iload_n hx hb dX10_isLetter_0 rfl (lv_at hl 0 rfl) ?_
  refine lv_bipush (v := (97 : Int32)) hx hb dX10_isLetter_1 (by decide) ?_
  refine lv_icmp_lt (tgt := 16) hx hb dX10_isLetter_3 (by decide) (fun c_1 => ?_) (fun c_1 => ?_)
  · have hf := ite_t hf c_1
    refine lv_iconst (v := (0 : Int32)) hx hb dX10_isLetter_16 (by decide) ?_
    have e90 := Option.some.inj hf
    subst e90
    exact x_zret X Y rfl dX10_isLetter_17
  · have hf := ite_f hf c_1
    refine lv_iload_n hx hb dX10_isLetter_6 rfl (lv_at hl 0 rfl) ?_
    refine lv_bipush (v := (122 : Int32)) hx hb dX10_isLetter_7 (by decide) ?_
    refine lv_icmp_gt (tgt := 16) hx hb dX10_isLetter_9 (by decide) (fun c_2 => ?_) (fun c_2 => ?_)
    · have hf := ite_t hf c_2
      refine lv_iconst (v := (0 : Int32)) hx hb dX10_isLetter_16 (by decide) ?_
      have e90 := Option.some.inj hf
      subst e90
      exact x_zret X Y rfl dX10_isLetter_17
    · have hf := ite_f hf c_2
      refine lv_iconst (v := (1 : Int32)) hx hb dX10_isLetter_12 (by decide) ?_
      refine lv_goto (tgt := 17) hx hb dX10_isLetter_13 (by decide) ?_
      have e90 := Option.some.inj hf
      subst e90
      exact x_zret X Y rfl dX10_isLetter_17
theorem cT_isLetter {l : Launch} {Γ : Gm} {r0 : Int32} {x0 : Int32} (h : T_isLetter x0 = some r0) : CI l Γ yX10_isLetter (Cond.code yX10_isLetter cX10_isLetter 1 (some .boolean) :: GW) rmT_isLetter [.int x0] ([] : va_W) ([] : va_W) r0 := ofBody (Qc := QcI Γ _ _ r0) (by decide) (Nat.le_of_ble_eq_true rfl) (fun p e s m below meth c ls _ X Y hl => bT_isLetter_e X h Y hl)
def rmT_isFigure : Room := { frames := 0, cells := 0, slots := 0, locals := 0 }
def T_isFigure (x0 : Int32) : Option (Int32) := if x0 < (48 : Int32) then (some (0 : Int32)) else (if (57 : Int32) < x0 then (some (0 : Int32)) else (some (1 : Int32)))
set_option maxHeartbeats 4000000 in
set_option maxRecDepth 100000 in
theorem bT_isFigure_e {r0 : Int32} {x0 : Int32} (X : Cx Γ p s m args meth c RX10 cX10_isFigure 1 (some .boolean) w0) (hf : T_isFigure x0 = some r0) (Y : Wd Γ w0 s ([] : va_W) H locs) (hl : lv_has ls 1 [(0, .int x0)]) : W p l e rmT_isFigure s m args below meth c H locs 0 0 (EI Γ below args s w0 ([] : va_W) r0) (F0 m 0 ls []) := by
  have hx := X.1
  have hb := X.2.1
  refine lv_iload_n hx hb dX10_isFigure_0 rfl (lv_at hl 0 rfl) ?_
  refine lv_bipush (v := (48 : Int32)) hx hb dX10_isFigure_1 (by decide) ?_
  refine lv_icmp_lt (tgt := 16) hx hb dX10_isFigure_3 (by decide) (fun c_1 => ?_) (fun c_1 => ?_)
  · have hf := ite_t hf c_1
    refine lv_iconst (v := (0 : Int32)) hx hb dX10_isFigure_16 (by decide) ?_
    have e90 := Option.some.inj hf
    subst e90
    exact x_zret X Y rfl dX10_isFigure_17
  · have hf := ite_f hf c_1
    refine lv_iload_n hx hb dX10_isFigure_6 rfl (lv_at hl 0 rfl) ?_
    refine lv_bipush (v := (57 : Int32)) hx hb dX10_isFigure_7 (by decide) ?_
    refine lv_icmp_gt (tgt := 16) hx hb dX10_isFigure_9 (by decide) (fun c_2 => ?_) (fun c_2 => ?_)
    · have hf := ite_t hf c_2
      refine lv_iconst (v := (0 : Int32)) hx hb dX10_isFigure_16 (by decide) ?_
      have e90 := Option.some.inj hf
      subst e90
      exact x_zret X Y rfl dX10_isFigure_17
    · have hf := ite_f hf c_2
      refine lv_iconst (v := (1 : Int32)) hx hb dX10_isFigure_12 (by decide) ?_
      refine lv_goto (tgt := 17) hx hb dX10_isFigure_13 (by decide) ?_
      have e90 := Option.some.inj hf
      subst e90
      exact x_zret X Y rfl dX10_isFigure_17
theorem cT_isFigure {l : Launch} {Γ : Gm} {r0 : Int32} {x0 : Int32} (h : T_isFigure x0 = some r0) : CI l Γ yX10_isFigure (Cond.code yX10_isFigure cX10_isFigure 1 (some .boolean) :: GW) rmT_isFigure [.int x0] ([] : va_W) ([] : va_W) r0 := ofBody (Qc := QcI Γ _ _ r0) (by decide) (Nat.le_of_ble_eq_true rfl) (fun p e s m below meth c ls _ X Y hl => bT_isFigure_e X h Y hl)
theorem gfX10_19 (X : Cx Γ p s m args meth c RX10 cc nL ret w0) (Y : Wd Γ w0 s ws H locs) {v : Value} (q0 : Nat) {fs : List Value} (he : ws[q0]? = some (a, .inr (10, fs))) (hv : fs[2]? = some v) (hdg : decode cc pc = .ok (.getfield 19, 3)) (kk : W p l e R s m args below meth c H locs cells slots Q (F0 m (pc + 3) ls (v :: rest))) : W p l e R s m args below meth c H locs cells slots Q (F0 m pc ls (.ref a :: rest)) := x_get X Y iX10 rfl 2 (by decide) rfl kw402 q0 he hv hdg kk
theorem gfX10_9 (X : Cx Γ p s m args meth c RX10 cc nL ret w0) (Y : Wd Γ w0 s ws H locs) {v : Value} (q0 : Nat) {fs : List Value} (he : ws[q0]? = some (a, .inr (10, fs))) (hv : fs[0]? = some v) (hdg : decode cc pc = .ok (.getfield 9, 3)) (kk : W p l e R s m args below meth c H locs cells slots Q (F0 m (pc + 3) ls (v :: rest))) : W p l e R s m args below meth c H locs cells slots Q (F0 m pc ls (.ref a :: rest)) := x_get X Y iX10 rfl 0 (by decide) rfl kw403 q0 he hv hdg kk
theorem pfX10_19 (X : Cx Γ p s m args meth c RX10 cc nL ret w0) (Y : Wd Γ w0 s ws H locs) (q0 : Nat) {fs : List Value} (he : ws[q0]? = some (a, .inr (10, fs))) {v : Value} (hn : narrow (tyX10 2) v = v) (hfit : fits (tyX10 2) v = true) (hl : 2 < fs.length) (hw : ws.set q0 (a, .inr (10, fs.set 2 v)) = ws') (hdg : decode cc pc = .ok (.putfield 19, 3)) (kk : ∀ (H1 : Heap) (locs1 : List Loc), Wd Γ w0 s ws' H1 locs1 → W p l e R s m args below meth c H1 locs1 cells slots Q (F0 m (pc + 3) ls rest)) : W p l e R s m args below meth c H locs cells slots Q (F0 m pc ls (v :: .ref a :: rest)) := x_put X Y iX10 tyX10 tyX10_ok nmX10 rfl 2 (by decide) rfl kw402 rfl q0 he hn hfit hl hw hdg kk
theorem cwX10_23 (X : Cx Γ p s m args meth c RX10 cc nL ret w0) (hR : rmX_within.frames + 1 ≤ R.frames ∧ 8 + (3 + 11) + rmX_within.locals ≤ R.locals) : va_CN R s args RX10 23 yX11_within "ThrownOver" cX11_within 3 (some .boolean) (Cond.code yX11_within cX11_within 3 (some .boolean) :: GW) rmX_within 0 0 3 ∧ (Cond.static yX11_within).before args s = true ∧ True := cw_SN X kw404 kw219 kw220 kw221 dmX11_withinS rfl rfl hR
def rmT_append : Room := { frames := 1, cells := 0, slots := 0, locals := 22 }
def T_append (x1 : Int32) (tby : Nat → Int32) (tln : Int32) : Option (Int32 × (Nat → Int32) × Int32) := bd1 (X_within tln (0 : Int32) (149 : Int32)) (fun (r_1 : Int32) => if r_1 = 0 then (some ((0 : Int32), tby, tln)) else (bnd x1.toInt8.toInt32 (fun (v_3 : Int32) => ck (inb tln 150) (bnd (upd tby tln.toNatClampNeg (vp_nar .byte v_3)) (fun (tby_4 : Nat → Int32) => bnd (tln + (1 : Int32)) (fun (tln_6 : Int32) => some ((1 : Int32), tby_4, tln_6)))))))
set_option maxHeartbeats 4000000 in
set_option maxRecDepth 100000 in
theorem bT_append_e {At : Nat → Nat} {tby : Nat → Int32} {tnu : Nat → Int32} {tln : Int32} {tat : Int32} {tsr : Int32} {ttk : Int32} {tnm : Int32} {tit : Int32} {tft : Int32} {tby_z : Nat → Int32} {tln_z : Int32} {r0 : Int32} {x1 : Int32} (X : Cx Γ p s m args meth c RX10 cX10_append 2 (some .boolean) w0) (hf : T_append x1 tby tln = some (r0, tby_z, tln_z)) (Y : Wd Γ w0 s (WT Γ At tby tnu tln tat tsr ttk tnm tit tft) H locs) (hl : lv_has ls 2 [(0, .ref (At 0)), (1, .int x1)]) : W p l e rmT_append s m args below meth c H locs 0 0 (EI Γ below args s w0 (WT Γ At tby_z tnu tln_z tat tsr ttk tnm tit tft) r0) (F0 m 0 ls []) := by
  have hx := X.1
  have hb := X.2.1
  refine lv_aload_n hx hb dX10_append_0 rfl (lv_at hl 0 rfl) ?_
  refine gfX10_19 X Y (v := .int tln) 0 rfl rfl dX10_append_1 ?_
  refine lv_iconst (v := (0 : Int32)) hx hb dX10_append_4 (by decide) ?_
  refine lv_sipush (v := (149 : Int32)) hx hb dX10_append_5 (by decide) ?_
  obtain ⟨r_1, ho_7, hf⟩ := bd1_some hf
  refine t_i Y (bk0 Y) (r_SN (As := [.int tln, .int (0 : Int32), .int (149 : Int32)]) (rest := []) X (c_pre0 X Y) (cX_within ho_7) (cwX10_23 X (by decide)) rfl hl.1 (Nat.le_of_ble_eq_true rfl) rfl dX10_append_8 ⟨Nat.zero_le _, Nat.zero_le _⟩) (fun H locs Y => ?_)
  refine lv_if_ne (tgt := 16) hx hb dX10_append_11 (by decide) (fun c_2 => ?_) (fun c_2 => ?_)
  · have hf := ite_f hf c_2
    refine lv_aload_n hx hb dX10_append_16 rfl (lv_at hl 0 rfl) ?_
    refine gfX10_9 X Y (v := .ref (At 1)) 0 rfl rfl dX10_append_17 ?_
    refine lv_aload_n hx hb dX10_append_20 rfl (lv_at hl 0 rfl) ?_
    refine gfX10_19 X Y (v := .int tln) 0 rfl rfl dX10_append_21 ?_
    refine lv_iload_n hx hb dX10_append_24 rfl (lv_at hl 1 rfl) ?_
    refine lv_i2b (v := x1.toInt8.toInt32) hx hb dX10_append_25 rfl ?_
    refine lv_topi (fun v_3 e_v_3 => ?_)
    have hf := bnd_eq hf e_v_3
    obtain ⟨hi_5, hf⟩ := ck_some hf
    obtain ⟨tby_4, e_tby_4⟩ : ∃ z : Nat → Int32, z = (upd tby tln.toNatClampNeg (vp_nar .byte v_3)) := ⟨_, rfl⟩
    have hf := bnd_eq hf e_tby_4
    refine x_bast X Y 1 rfl rfl hi_5 (ws' := (WT Γ At tby_4 tnu tln tat tsr ttk tnm tit tft)) (by subst e_tby_4; rfl) dX10_append_26 (fun H locs Y => ?_)
    refine lv_aload_n hx hb dX10_append_27 rfl (lv_at hl 0 rfl) ?_
    refine lv_dup hx hb dX10_append_28 rfl ?_
    refine gfX10_19 X Y (v := .int tln) 0 rfl rfl dX10_append_29 ?_
    refine lv_iconst (v := (1 : Int32)) hx hb dX10_append_32 (by decide) ?_
    refine lv_iadd hx hb dX10_append_33 ?_
    refine lv_topi (fun tln_6 e_tln_6 => ?_)
    have hf := bnd_eq hf e_tln_6
    refine pfX10_19 X Y 0 rfl rfl rfl (Nat.le_of_ble_eq_true rfl) (ws' := (WT Γ At tby_4 tnu tln_6 tat tsr ttk tnm tit tft)) rfl dX10_append_34 (fun H locs Y => ?_)
    refine lv_iconst (v := (1 : Int32)) hx hb dX10_append_37 (by decide) ?_
    obtain ⟨e90, e91, e92⟩ := sj3 hf
    subst e90
    subst e91
    subst e92
    exact x_zret X Y rfl dX10_append_38
  · have hf := ite_t hf c_2
    refine lv_iconst (v := (0 : Int32)) hx hb dX10_append_14 (by decide) ?_
    obtain ⟨e90, e91, e92⟩ := sj3 hf
    subst e90
    subst e91
    subst e92
    exact x_zret X Y rfl dX10_append_15
theorem cT_append {l : Launch} {Γ : Gm} {At : Nat → Nat} {tby : Nat → Int32} {tnu : Nat → Int32} {tln : Int32} {tat : Int32} {tsr : Int32} {ttk : Int32} {tnm : Int32} {tit : Int32} {tft : Int32} {tby_z : Nat → Int32} {tln_z : Int32} {r0 : Int32} {x1 : Int32} (h : T_append x1 tby tln = some (r0, tby_z, tln_z)) : CI l Γ yX10_append (Cond.code yX10_append cX10_append 2 (some .boolean) :: GW) rmT_append [.ref (At 0), .int x1] (WT Γ At tby tnu tln tat tsr ttk tnm tit tft) (WT Γ At tby_z tnu tln_z tat tsr ttk tnm tit tft) r0 := ofBody (Qc := QcI Γ _ _ r0) (by decide) (Nat.le_of_ble_eq_true rfl) (fun p e s m below meth c ls _ X Y hl => bT_append_e X h Y hl)
def rmT_byteAt : Room := { frames := 0, cells := 0, slots := 0, locals := 0 }
def T_byteAt (x1 : Int32) (tby : Nat → Int32) : Option (Int32) := if x1 < 0 then (some (-1 : Int32)) else (if (150 : Int32) ≤ x1 then (some (-1 : Int32)) else (ck (inb x1 150) (some (tby x1.toNatClampNeg))))
set_option maxHeartbeats 4000000 in
set_option maxRecDepth 100000 in
theorem bT_byteAt_e {At : Nat → Nat} {tby : Nat → Int32} {tnu : Nat → Int32} {tln : Int32} {tat : Int32} {tsr : Int32} {ttk : Int32} {tnm : Int32} {tit : Int32} {tft : Int32} {r0 : Int32} {x1 : Int32} (X : Cx Γ p s m args meth c RX10 cX10_byteAt 2 (some .int) w0) (hf : T_byteAt x1 tby = some r0) (Y : Wd Γ w0 s (WT Γ At tby tnu tln tat tsr ttk tnm tit tft) H locs) (hl : lv_has ls 2 [(0, .ref (At 0)), (1, .int x1)]) : W p l e rmT_byteAt s m args below meth c H locs 0 0 (EI Γ below args s w0 (WT Γ At tby tnu tln tat tsr ttk tnm tit tft) r0) (F0 m 0 ls []) := by
  have hx := X.1
  have hb := X.2.1
  refine lv_iload_n hx hb dX10_byteAt_0 rfl (lv_at hl 1 rfl) ?_
  refine lv_if_lt (tgt := 20) hx hb dX10_byteAt_1 (by decide) (fun c_1 => ?_) (fun c_1 => ?_)
  · have hf := ite_t hf c_1
    refine lv_iconst (v := (-1 : Int32)) hx hb dX10_byteAt_20 (by decide) ?_
    have e90 := Option.some.inj hf
    subst e90
    exact x_iret X Y dX10_byteAt_21
  · have hf := ite_f hf c_1
    refine lv_iload_n hx hb dX10_byteAt_4 rfl (lv_at hl 1 rfl) ?_
    refine lv_sipush (v := (150 : Int32)) hx hb dX10_byteAt_5 (by decide) ?_
    refine lv_icmp_ge (tgt := 20) hx hb dX10_byteAt_8 (by decide) (fun c_2 => ?_) (fun c_2 => ?_)
    · have hf := ite_t hf c_2
      refine lv_iconst (v := (-1 : Int32)) hx hb dX10_byteAt_20 (by decide) ?_
      have e90 := Option.some.inj hf
      subst e90
      exact x_iret X Y dX10_byteAt_21
    · have hf := ite_f hf c_2
      refine lv_aload_n hx hb dX10_byteAt_11 rfl (lv_at hl 0 rfl) ?_
      refine gfX10_9 X Y (v := .ref (At 1)) 0 rfl rfl dX10_byteAt_12 ?_
      refine lv_iload_n hx hb dX10_byteAt_15 rfl (lv_at hl 1 rfl) ?_
      obtain ⟨hi_3, hf⟩ := ck_some hf
      refine x_bald X Y 1 rfl rfl hi_3 dX10_byteAt_16 ?_
      refine lv_goto (tgt := 21) hx hb dX10_byteAt_17 (by decide) ?_
      have e90 := Option.some.inj hf
      subst e90
      exact x_iret X Y dX10_byteAt_21
theorem cT_byteAt {l : Launch} {Γ : Gm} {At : Nat → Nat} {tby : Nat → Int32} {tnu : Nat → Int32} {tln : Int32} {tat : Int32} {tsr : Int32} {ttk : Int32} {tnm : Int32} {tit : Int32} {tft : Int32} {r0 : Int32} {x1 : Int32} (h : T_byteAt x1 tby = some r0) : CI l Γ yX10_byteAt (Cond.code yX10_byteAt cX10_byteAt 2 (some .int) :: GW) rmT_byteAt [.ref (At 0), .int x1] (WT Γ At tby tnu tln tat tsr ttk tnm tit tft) (WT Γ At tby tnu tln tat tsr ttk tnm tit tft) r0 := ofBody (Qc := QcI Γ _ _ r0) (by decide) (Nat.le_of_ble_eq_true rfl) (fun p e s m below meth c ls _ X Y hl => bT_byteAt_e X h Y hl)
theorem gfX10_27 (X : Cx Γ p s m args meth c RX10 cc nL ret w0) (Y : Wd Γ w0 s ws H locs) {v : Value} (q0 : Nat) {fs : List Value} (he : ws[q0]? = some (a, .inr (10, fs))) (hv : fs[3]? = some v) (hdg : decode cc pc = .ok (.getfield 27, 3)) (kk : W p l e R s m args below meth c H locs cells slots Q (F0 m (pc + 3) ls (v :: rest))) : W p l e R s m args below meth c H locs cells slots Q (F0 m pc ls (.ref a :: rest)) := x_get X Y iX10 rfl 3 (by decide) rfl kw405 q0 he hv hdg kk
theorem gfX10_81 (X : Cx Γ p s m args meth c RX10 cc nL ret w0) (Y : Wd Γ w0 s ws H locs) {v : Value} (q0 : Nat) {fs : List Value} (he : ws[q0]? = some (a, .inr (10, fs))) (hv : fs[4]? = some v) (hdg : decode cc pc = .ok (.getfield 81, 3)) (kk : W p l e R s m args below meth c H locs cells slots Q (F0 m (pc + 3) ls (v :: rest))) : W p l e R s m args below meth c H locs cells slots Q (F0 m pc ls (.ref a :: rest)) := x_get X Y iX10 rfl 4 (by decide) rfl kw406 q0 he hv hdg kk
theorem dmJ0_length_8abf5V : yJ0_length_8abf5.cls = RJ0 ∧ yJ0_length_8abf5.cls ≠ "java/lang/invoke/MethodHandle" ∧ yJ0_length_8abf5.cls ≠ "java/lang/invoke/VarHandle" ∧ (parseMethodDescriptor yJ0_length_8abf5.desc).map (fun d => d.parameters.length) = some 0 := by decide +kernel
theorem cwX10_125 (X : Cx Γ p s m args meth c RX10 cc nL ret w0) (hR : rmJ_length.frames + 1 ≤ R.frames ∧ 8 + (1 + 11) + rmJ_length.locals ≤ R.locals) : CallW R s args RX10 RJ0 125 yJ0_length_8abf5 cJ0_length_8abf5 1 (some .int) (Cond.code yJ0_length_8abf5 cJ0_length_8abf5 1 (some .int) :: GW) rmJ_length 0 0 0 := cw_V X kw407 kw408 kw409 kw410 kw411 dmJ0_length_8abf5V rfl rfl hR
theorem dmX10_byteAtV : yX10_byteAt.cls = RX10 ∧ yX10_byteAt.cls ≠ "java/lang/invoke/MethodHandle" ∧ yX10_byteAt.cls ≠ "java/lang/invoke/VarHandle" ∧ (parseMethodDescriptor yX10_byteAt.desc).map (fun d => d.parameters.length) = some 1 := by decide +kernel
theorem cwX10_98 (X : Cx Γ p s m args meth c RX10 cc nL ret w0) (hR : rmT_byteAt.frames + 1 ≤ R.frames ∧ 8 + (2 + 11) + rmT_byteAt.locals ≤ R.locals) : CallW R s args RX10 RX10 98 yX10_byteAt cX10_byteAt 2 (some .int) (Cond.code yX10_byteAt cX10_byteAt 2 (some .int) :: GW) rmT_byteAt 0 0 1 := cw_V X kw412 kw413 kw414 kw415 kw416 dmX10_byteAtV rfl rfl hR
theorem dmJ0_charAt_5068eV : yJ0_charAt_5068e.cls = RJ0 ∧ yJ0_charAt_5068e.cls ≠ "java/lang/invoke/MethodHandle" ∧ yJ0_charAt_5068e.cls ≠ "java/lang/invoke/VarHandle" ∧ (parseMethodDescriptor yJ0_charAt_5068e.desc).map (fun d => d.parameters.length) = some 1 := by decide +kernel
theorem cwX10_130 (X : Cx Γ p s m args meth c RX10 cc nL ret w0) (hR : rmJ_charAt.frames + 1 ≤ R.frames ∧ 8 + (2 + 11) + rmJ_charAt.locals ≤ R.locals) : CallW R s args RX10 RJ0 130 yJ0_charAt_5068e cJ0_charAt_5068e 2 (some .char) (Cond.code yJ0_charAt_5068e cJ0_charAt_5068e 2 (some .char) :: GW) rmJ_charAt 0 0 1 := cw_V X kw417 kw418 kw419 kw410 kw420 dmJ0_charAt_5068eV rfl rfl hR
def rmT_spells0 : Room := { frames := 4, cells := 0, slots := 0, locals := 85 }
def T_spells0_20 (rc20 : Int32 → (Nat → Int32) → Int32 → Int32 → Option (Int32)) (x2 : Int32) (tby : Nat → Int32) (tat : Int32) (tsr : Int32) : Option (Int32) := bd1 (J_length 0) (fun (r_1 : Int32) => if r_1 ≤ x2 then (some (1 : Int32)) else (bd1 (J_charAt 0 x2) (fun (r_4 : Int32) => bd1 (T_byteAt (tsr + x2) tby) (fun (r_6 : Int32) => if r_4 = r_6 then (bnd (x2 + (1 : Int32)) (fun (x2_8 : Int32) => rc20 x2_8 tby tat tsr)) else (some (0 : Int32))))))
set_option maxHeartbeats 4000000 in
set_option maxRecDepth 100000 in
theorem bT_spells0_20 {At : Nat → Nat} {tby : Nat → Int32} {tnu : Nat → Int32} {tln : Int32} {tat : Int32} {tsr : Int32} {ttk : Int32} {tnm : Int32} {tit : Int32} {tft : Int32} {r0 : Int32} {x2 : Int32} {rc20 : Int32 → (Nat → Int32) → Int32 → Int32 → Option (Int32)} (X : Cx Γ p s m args meth c RX10 cX10_spells 3 (some .boolean) w0) (h20 : ∀ (x2 : Int32) (tby : Nat → Int32) (tat : Int32) (tsr : Int32), rc20 x2 tby tat tsr = some r0 → ∀ (H : Heap) (locs : List Loc) (ls : Array Slot), Wd Γ w0 s (WT Γ At tby tnu tln tat tsr ttk tnm tit tft) H locs → lv_has ls 3 [(0, .ref (At 0)), (1, .ref (Γ.2.2 10)), (2, .int x2)] → W p l e rmT_spells0 s m args below meth c H locs 0 0 (EI Γ below args s w0 (WT Γ At tby tnu tln tat tsr ttk tnm tit tft) r0) (F0 m 20 ls [])) (hf : T_spells0_20 rc20 x2 tby tat tsr = some r0) (Y : Wd Γ w0 s (WT Γ At tby tnu tln tat tsr ttk tnm tit tft) H locs) (hl : lv_has ls 3 [(0, .ref (At 0)), (1, .ref (Γ.2.2 10)), (2, .int x2)]) : W p l e rmT_spells0 s m args below meth c H locs 0 0 (EI Γ below args s w0 (WT Γ At tby tnu tln tat tsr ttk tnm tit tft) r0) (F0 m 20 ls []) := by
  have hx := X.1
  have hb := X.2.1
  refine lv_iload_n hx hb dX10_spells_20 rfl (lv_at hl 2 rfl) ?_
  refine lv_aload_n hx hb dX10_spells_21 rfl (lv_at hl 1 rfl) ?_
  obtain ⟨r_1, ho_2, hf⟩ := bd1_some hf
  refine t_i Y (bk0 Y) (r_V (As := []) (rest := [.int x2]) X (c_pre0 X Y) (cJ_length ho_2) (cwX10_125 X (by decide)) (vk_recv (i := 0) X.E.2.2.1 (by decide) Y.2.2) rfl hl.1 (Nat.le_of_ble_eq_true rfl) rfl dX10_spells_22 ⟨Nat.zero_le _, Nat.zero_le _⟩) (fun H locs Y => ?_)
  refine lv_icmp_ge (tgt := 54) hx hb dX10_spells_25 (by decide) (fun c_3 => ?_) (fun c_3 => ?_)
  · have hf := ite_t hf c_3
    refine lv_iconst (v := (1 : Int32)) hx hb dX10_spells_54 (by decide) ?_
    have e90 := Option.some.inj hf
    subst e90
    exact x_zret X Y rfl dX10_spells_55
  · have hf := ite_f hf c_3
    refine lv_aload_n hx hb dX10_spells_28 rfl (lv_at hl 1 rfl) ?_
    refine lv_iload_n hx hb dX10_spells_29 rfl (lv_at hl 2 rfl) ?_
    obtain ⟨r_4, ho_5, hf⟩ := bd1_some hf
    refine t_i Y (bk0 Y) (r_V (As := [.int x2]) (rest := []) X (c_pre0 X Y) (cJ_charAt ho_5) (cwX10_130 X (by decide)) (vk_recv (i := 0) X.E.2.2.1 (by decide) Y.2.2) rfl hl.1 (Nat.le_of_ble_eq_true rfl) rfl dX10_spells_30 ⟨Nat.zero_le _, Nat.zero_le _⟩) (fun H locs Y => ?_)
    refine lv_aload_n hx hb dX10_spells_33 rfl (lv_at hl 0 rfl) ?_
    refine lv_aload_n hx hb dX10_spells_34 rfl (lv_at hl 0 rfl) ?_
    refine gfX10_81 X Y (v := .int tsr) 0 rfl rfl dX10_spells_35 ?_
    refine lv_iload_n hx hb dX10_spells_38 rfl (lv_at hl 2 rfl) ?_
    refine lv_iadd hx hb dX10_spells_39 ?_
    obtain ⟨r_6, ho_9, hf⟩ := bd1_some hf
    refine t_i Y (bkS Y) (r_V (As := [.int (tsr + x2)]) (rest := [.int r_4]) X (c_preS X Y) (cT_byteAt ho_9) (cwX10_98 X (by decide)) (va_recv X.K Y.1 (q := (RX10, TX10, 9)) (q0 := 0) (ci := 10) rfl rfl) rfl hl.1 (Nat.le_of_ble_eq_true rfl) rfl dX10_spells_40 ⟨Nat.zero_le _, Nat.zero_le _⟩) (fun H locs Y => ?_)
    refine lv_icmp_eq (tgt := 48) hx hb dX10_spells_43 (by decide) (fun c_7 => ?_) (fun c_7 => ?_)
    · have hf := ite_t hf c_7
      obtain ⟨x2_8, e_x2_8⟩ : ∃ z : Int32, z = (x2 + (1 : Int32)) := ⟨_, rfl⟩
      have hf := bnd_eq hf e_x2_8
      refine lv_iinc (v := x2_8) (lv' := [(2, .int x2_8), (0, .ref (At 0)), (1, .ref (Γ.2.2 10))]) hx hb dX10_spells_48 hl (k := 2) rfl (by rw [e_x2_8]; rfl) (by decide) rfl (fun ls hl => ?_)
      refine lv_goto (tgt := 20) hx hb dX10_spells_51 (by decide) ?_
      exact h20 _ _ _ _ hf _ _ _ Y (lv_sub hl [1, 2, 0] rfl)
    · have hf := ite_f hf c_7
      refine lv_iconst (v := (0 : Int32)) hx hb dX10_spells_46 (by decide) ?_
      have e90 := Option.some.inj hf
      subst e90
      exact x_zret X Y rfl dX10_spells_47
def T_spells0_L20 : Nat → Int32 → (Nat → Int32) → Int32 → Int32 → Option (Int32)
  | 0, _, _, _, _ => none
  | n + 1, x2, tby, tat, tsr => T_spells0_20 (T_spells0_L20 n) x2 tby tat tsr
theorem lT_spells0_20 {At : Nat → Nat} {tnu : Nat → Int32} {tln : Int32} {ttk : Int32} {tnm : Int32} {tit : Int32} {tft : Int32} {r0 : Int32} (X : Cx Γ p s m args meth c RX10 cX10_spells 3 (some .boolean) w0) : ∀ (n : Nat) (x2 : Int32) (tby : Nat → Int32) (tat : Int32) (tsr : Int32), T_spells0_L20 n x2 tby tat tsr = some r0 → ∀ (H : Heap) (locs : List Loc) (ls : Array Slot), Wd Γ w0 s (WT Γ At tby tnu tln tat tsr ttk tnm tit tft) H locs → lv_has ls 3 [(0, .ref (At 0)), (1, .ref (Γ.2.2 10)), (2, .int x2)] → W p l e rmT_spells0 s m args below meth c H locs 0 0 (EI Γ below args s w0 (WT Γ At tby tnu tln tat tsr ttk tnm tit tft) r0) (F0 m 20 ls []) := by
  intro n
  induction n with
  | zero => intro x2 tby tat tsr hf; cases hf
  | succ n ih => intro x2 tby tat tsr hf H locs ls Y hl; exact bT_spells0_20 X ih hf Y hl
def T_spells0 (tby : Nat → Int32) (tat : Int32) (tsr : Int32) : Option (Int32) := bd1 (J_length 0) (fun (r_1 : Int32) => if r_1 = (tat - tsr) then (T_spells0_L20 FU (0 : Int32) tby tat tsr) else (some (0 : Int32)))
set_option maxHeartbeats 4000000 in
set_option maxRecDepth 100000 in
theorem bT_spells0_e {At : Nat → Nat} {tby : Nat → Int32} {tnu : Nat → Int32} {tln : Int32} {tat : Int32} {tsr : Int32} {ttk : Int32} {tnm : Int32} {tit : Int32} {tft : Int32} {r0 : Int32} (X : Cx Γ p s m args meth c RX10 cX10_spells 3 (some .boolean) w0) (hf : T_spells0 tby tat tsr = some r0) (Y : Wd Γ w0 s (WT Γ At tby tnu tln tat tsr ttk tnm tit tft) H locs) (hl : lv_has ls 3 [(0, .ref (At 0)), (1, .ref (Γ.2.2 10))]) : W p l e rmT_spells0 s m args below meth c H locs 0 0 (EI Γ below args s w0 (WT Γ At tby tnu tln tat tsr ttk tnm tit tft) r0) (F0 m 0 ls []) := by
  have hx := X.1
  have hb := X.2.1
  refine lv_aload_n hx hb dX10_spells_0 rfl (lv_at hl 1 rfl) ?_
  obtain ⟨r_1, ho_2, hf⟩ := bd1_some hf
  refine t_i Y (bk0 Y) (r_V (As := []) (rest := []) X (c_pre0 X Y) (cJ_length ho_2) (cwX10_125 X (by decide)) (vk_recv (i := 0) X.E.2.2.1 (by decide) Y.2.2) rfl hl.1 (Nat.le_of_ble_eq_true rfl) rfl dX10_spells_1 ⟨Nat.zero_le _, Nat.zero_le _⟩) (fun H locs Y => ?_)
  refine lv_aload_n hx hb dX10_spells_4 rfl (lv_at hl 0 rfl) ?_
  refine gfX10_27 X Y (v := .int tat) 0 rfl rfl dX10_spells_5 ?_
  refine lv_aload_n hx hb dX10_spells_8 rfl (lv_at hl 0 rfl) ?_
  refine gfX10_81 X Y (v := .int tsr) 0 rfl rfl dX10_spells_9 ?_
  refine lv_isub hx hb dX10_spells_12 ?_
  refine lv_icmp_eq (tgt := 18) hx hb dX10_spells_13 (by decide) (fun c_3 => ?_) (fun c_3 => ?_)
  · have hf := ite_t hf c_3
    refine lv_iconst (v := (0 : Int32)) hx hb dX10_spells_18 (by decide) ?_
    refine lv_istore_n (lv' := [(2, .int (0 : Int32)), (0, .ref (At 0)), (1, .ref (Γ.2.2 10))]) hx hb dX10_spells_19 rfl hl (by decide) rfl (fun ls hl => ?_)
    exact lT_spells0_20 X _ _ _ _ _ hf _ _ _ Y (lv_sub hl [1, 2, 0] rfl)
  · have hf := ite_f hf c_3
    refine lv_iconst (v := (0 : Int32)) hx hb dX10_spells_16 (by decide) ?_
    have e90 := Option.some.inj hf
    subst e90
    exact x_zret X Y rfl dX10_spells_17
theorem cT_spells0 {l : Launch} {Γ : Gm} {At : Nat → Nat} {tby : Nat → Int32} {tnu : Nat → Int32} {tln : Int32} {tat : Int32} {tsr : Int32} {ttk : Int32} {tnm : Int32} {tit : Int32} {tft : Int32} {r0 : Int32} (h : T_spells0 tby tat tsr = some r0) : CI l Γ yX10_spells (Cond.code yX10_spells cX10_spells 3 (some .boolean) :: GW) rmT_spells0 [.ref (At 0), .ref (Γ.2.2 10)] (WT Γ At tby tnu tln tat tsr ttk tnm tit tft) (WT Γ At tby tnu tln tat tsr ttk tnm tit tft) r0 := ofBody (Qc := QcI Γ _ _ r0) (by decide) (Nat.le_of_ble_eq_true rfl) (fun p e s m below meth c ls _ X Y hl => bT_spells0_e X h Y hl)
def rmT_spells1 : Room := { frames := 4, cells := 0, slots := 0, locals := 85 }
def T_spells1_20 (rc20 : Int32 → (Nat → Int32) → Int32 → Int32 → Option (Int32)) (x2 : Int32) (tby : Nat → Int32) (tat : Int32) (tsr : Int32) : Option (Int32) := bd1 (J_length 1) (fun (r_1 : Int32) => if r_1 ≤ x2 then (some (1 : Int32)) else (bd1 (J_charAt 1 x2) (fun (r_4 : Int32) => bd1 (T_byteAt (tsr + x2) tby) (fun (r_6 : Int32) => if r_4 = r_6 then (bnd (x2 + (1 : Int32)) (fun (x2_8 : Int32) => rc20 x2_8 tby tat tsr)) else (some (0 : Int32))))))
set_option maxHeartbeats 4000000 in
set_option maxRecDepth 100000 in
theorem bT_spells1_20 {At : Nat → Nat} {tby : Nat → Int32} {tnu : Nat → Int32} {tln : Int32} {tat : Int32} {tsr : Int32} {ttk : Int32} {tnm : Int32} {tit : Int32} {tft : Int32} {r0 : Int32} {x2 : Int32} {rc20 : Int32 → (Nat → Int32) → Int32 → Int32 → Option (Int32)} (X : Cx Γ p s m args meth c RX10 cX10_spells 3 (some .boolean) w0) (h20 : ∀ (x2 : Int32) (tby : Nat → Int32) (tat : Int32) (tsr : Int32), rc20 x2 tby tat tsr = some r0 → ∀ (H : Heap) (locs : List Loc) (ls : Array Slot), Wd Γ w0 s (WT Γ At tby tnu tln tat tsr ttk tnm tit tft) H locs → lv_has ls 3 [(0, .ref (At 0)), (1, .ref (Γ.2.2 11)), (2, .int x2)] → W p l e rmT_spells1 s m args below meth c H locs 0 0 (EI Γ below args s w0 (WT Γ At tby tnu tln tat tsr ttk tnm tit tft) r0) (F0 m 20 ls [])) (hf : T_spells1_20 rc20 x2 tby tat tsr = some r0) (Y : Wd Γ w0 s (WT Γ At tby tnu tln tat tsr ttk tnm tit tft) H locs) (hl : lv_has ls 3 [(0, .ref (At 0)), (1, .ref (Γ.2.2 11)), (2, .int x2)]) : W p l e rmT_spells1 s m args below meth c H locs 0 0 (EI Γ below args s w0 (WT Γ At tby tnu tln tat tsr ttk tnm tit tft) r0) (F0 m 20 ls []) := by
  have hx := X.1
  have hb := X.2.1
  refine lv_iload_n hx hb dX10_spells_20 rfl (lv_at hl 2 rfl) ?_
  refine lv_aload_n hx hb dX10_spells_21 rfl (lv_at hl 1 rfl) ?_
  obtain ⟨r_1, ho_2, hf⟩ := bd1_some hf
  refine t_i Y (bk0 Y) (r_V (As := []) (rest := [.int x2]) X (c_pre0 X Y) (cJ_length ho_2) (cwX10_125 X (by decide)) (vk_recv (i := 1) X.E.2.2.1 (by decide) Y.2.2) rfl hl.1 (Nat.le_of_ble_eq_true rfl) rfl dX10_spells_22 ⟨Nat.zero_le _, Nat.zero_le _⟩) (fun H locs Y => ?_)
  refine lv_icmp_ge (tgt := 54) hx hb dX10_spells_25 (by decide) (fun c_3 => ?_) (fun c_3 => ?_)
  · have hf := ite_t hf c_3
    refine lv_iconst (v := (1 : Int32)) hx hb dX10_spells_54 (by decide) ?_
    have e90 := Option.some.inj hf
    subst e90
    exact x_zret X Y rfl dX10_spells_55
  · have hf := ite_f hf c_3
    refine lv_aload_n hx hb dX10_spells_28 rfl (lv_at hl 1 rfl) ?_
    refine lv_iload_n hx hb dX10_spells_29 rfl (lv_at hl 2 rfl) ?_
    obtain ⟨r_4, ho_5, hf⟩ := bd1_some hf
    refine t_i Y (bk0 Y) (r_V (As := [.int x2]) (rest := []) X (c_pre0 X Y) (cJ_charAt ho_5) (cwX10_130 X (by decide)) (vk_recv (i := 1) X.E.2.2.1 (by decide) Y.2.2) rfl hl.1 (Nat.le_of_ble_eq_true rfl) rfl dX10_spells_30 ⟨Nat.zero_le _, Nat.zero_le _⟩) (fun H locs Y => ?_)
    refine lv_aload_n hx hb dX10_spells_33 rfl (lv_at hl 0 rfl) ?_
    refine lv_aload_n hx hb dX10_spells_34 rfl (lv_at hl 0 rfl) ?_
    refine gfX10_81 X Y (v := .int tsr) 0 rfl rfl dX10_spells_35 ?_
    refine lv_iload_n hx hb dX10_spells_38 rfl (lv_at hl 2 rfl) ?_
    refine lv_iadd hx hb dX10_spells_39 ?_
    obtain ⟨r_6, ho_9, hf⟩ := bd1_some hf
    refine t_i Y (bkS Y) (r_V (As := [.int (tsr + x2)]) (rest := [.int r_4]) X (c_preS X Y) (cT_byteAt ho_9) (cwX10_98 X (by decide)) (va_recv X.K Y.1 (q := (RX10, TX10, 9)) (q0 := 0) (ci := 10) rfl rfl) rfl hl.1 (Nat.le_of_ble_eq_true rfl) rfl dX10_spells_40 ⟨Nat.zero_le _, Nat.zero_le _⟩) (fun H locs Y => ?_)
    refine lv_icmp_eq (tgt := 48) hx hb dX10_spells_43 (by decide) (fun c_7 => ?_) (fun c_7 => ?_)
    · have hf := ite_t hf c_7
      obtain ⟨x2_8, e_x2_8⟩ : ∃ z : Int32, z = (x2 + (1 : Int32)) := ⟨_, rfl⟩
      have hf := bnd_eq hf e_x2_8
      refine lv_iinc (v := x2_8) (lv' := [(2, .int x2_8), (0, .ref (At 0)), (1, .ref (Γ.2.2 11))]) hx hb dX10_spells_48 hl (k := 2) rfl (by rw [e_x2_8]; rfl) (by decide) rfl (fun ls hl => ?_)
      refine lv_goto (tgt := 20) hx hb dX10_spells_51 (by decide) ?_
      exact h20 _ _ _ _ hf _ _ _ Y (lv_sub hl [1, 2, 0] rfl)
    · have hf := ite_f hf c_7
      refine lv_iconst (v := (0 : Int32)) hx hb dX10_spells_46 (by decide) ?_
      have e90 := Option.some.inj hf
      subst e90
      exact x_zret X Y rfl dX10_spells_47
def T_spells1_L20 : Nat → Int32 → (Nat → Int32) → Int32 → Int32 → Option (Int32)
  | 0, _, _, _, _ => none
  | n + 1, x2, tby, tat, tsr => T_spells1_20 (T_spells1_L20 n) x2 tby tat tsr
theorem lT_spells1_20 {At : Nat → Nat} {tnu : Nat → Int32} {tln : Int32} {ttk : Int32} {tnm : Int32} {tit : Int32} {tft : Int32} {r0 : Int32} (X : Cx Γ p s m args meth c RX10 cX10_spells 3 (some .boolean) w0) : ∀ (n : Nat) (x2 : Int32) (tby : Nat → Int32) (tat : Int32) (tsr : Int32), T_spells1_L20 n x2 tby tat tsr = some r0 → ∀ (H : Heap) (locs : List Loc) (ls : Array Slot), Wd Γ w0 s (WT Γ At tby tnu tln tat tsr ttk tnm tit tft) H locs → lv_has ls 3 [(0, .ref (At 0)), (1, .ref (Γ.2.2 11)), (2, .int x2)] → W p l e rmT_spells1 s m args below meth c H locs 0 0 (EI Γ below args s w0 (WT Γ At tby tnu tln tat tsr ttk tnm tit tft) r0) (F0 m 20 ls []) := by
  intro n
  induction n with
  | zero => intro x2 tby tat tsr hf; cases hf
  | succ n ih => intro x2 tby tat tsr hf H locs ls Y hl; exact bT_spells1_20 X ih hf Y hl
def T_spells1 (tby : Nat → Int32) (tat : Int32) (tsr : Int32) : Option (Int32) := bd1 (J_length 1) (fun (r_1 : Int32) => if r_1 = (tat - tsr) then (T_spells1_L20 FU (0 : Int32) tby tat tsr) else (some (0 : Int32)))
set_option maxHeartbeats 4000000 in
set_option maxRecDepth 100000 in
theorem bT_spells1_e {At : Nat → Nat} {tby : Nat → Int32} {tnu : Nat → Int32} {tln : Int32} {tat : Int32} {tsr : Int32} {ttk : Int32} {tnm : Int32} {tit : Int32} {tft : Int32} {r0 : Int32} (X : Cx Γ p s m args meth c RX10 cX10_spells 3 (some .boolean) w0) (hf : T_spells1 tby tat tsr = some r0) (Y : Wd Γ w0 s (WT Γ At tby tnu tln tat tsr ttk tnm tit tft) H locs) (hl : lv_has ls 3 [(0, .ref (At 0)), (1, .ref (Γ.2.2 11))]) : W p l e rmT_spells1 s m args below meth c H locs 0 0 (EI Γ below args s w0 (WT Γ At tby tnu tln tat tsr ttk tnm tit tft) r0) (F0 m 0 ls []) := by
  have hx := X.1
  have hb := X.2.1
  refine lv_aload_n hx hb dX10_spells_0 rfl (lv_at hl 1 rfl) ?_
  obtain ⟨r_1, ho_2, hf⟩ := bd1_some hf
  refine t_i Y (bk0 Y) (r_V (As := []) (rest := []) X (c_pre0 X Y) (cJ_length ho_2) (cwX10_125 X (by decide)) (vk_recv (i := 1) X.E.2.2.1 (by decide) Y.2.2) rfl hl.1 (Nat.le_of_ble_eq_true rfl) rfl dX10_spells_1 ⟨Nat.zero_le _, Nat.zero_le _⟩) (fun H locs Y => ?_)
  refine lv_aload_n hx hb dX10_spells_4 rfl (lv_at hl 0 rfl) ?_
  refine gfX10_27 X Y (v := .int tat) 0 rfl rfl dX10_spells_5 ?_
  refine lv_aload_n hx hb dX10_spells_8 rfl (lv_at hl 0 rfl) ?_
  refine gfX10_81 X Y (v := .int tsr) 0 rfl rfl dX10_spells_9 ?_
  refine lv_isub hx hb dX10_spells_12 ?_
  refine lv_icmp_eq (tgt := 18) hx hb dX10_spells_13 (by decide) (fun c_3 => ?_) (fun c_3 => ?_)
  · have hf := ite_t hf c_3
    refine lv_iconst (v := (0 : Int32)) hx hb dX10_spells_18 (by decide) ?_
    refine lv_istore_n (lv' := [(2, .int (0 : Int32)), (0, .ref (At 0)), (1, .ref (Γ.2.2 11))]) hx hb dX10_spells_19 rfl hl (by decide) rfl (fun ls hl => ?_)
    exact lT_spells1_20 X _ _ _ _ _ hf _ _ _ Y (lv_sub hl [1, 2, 0] rfl)
  · have hf := ite_f hf c_3
    refine lv_iconst (v := (0 : Int32)) hx hb dX10_spells_16 (by decide) ?_
    have e90 := Option.some.inj hf
    subst e90
    exact x_zret X Y rfl dX10_spells_17
theorem cT_spells1 {l : Launch} {Γ : Gm} {At : Nat → Nat} {tby : Nat → Int32} {tnu : Nat → Int32} {tln : Int32} {tat : Int32} {tsr : Int32} {ttk : Int32} {tnm : Int32} {tit : Int32} {tft : Int32} {r0 : Int32} (h : T_spells1 tby tat tsr = some r0) : CI l Γ yX10_spells (Cond.code yX10_spells cX10_spells 3 (some .boolean) :: GW) rmT_spells1 [.ref (At 0), .ref (Γ.2.2 11)] (WT Γ At tby tnu tln tat tsr ttk tnm tit tft) (WT Γ At tby tnu tln tat tsr ttk tnm tit tft) r0 := ofBody (Qc := QcI Γ _ _ r0) (by decide) (Nat.le_of_ble_eq_true rfl) (fun p e s m below meth c ls _ X Y hl => bT_spells1_e X h Y hl)
def rmT_spells2 : Room := { frames := 4, cells := 0, slots := 0, locals := 85 }
def T_spells2_20 (rc20 : Int32 → (Nat → Int32) → Int32 → Int32 → Option (Int32)) (x2 : Int32) (tby : Nat → Int32) (tat : Int32) (tsr : Int32) : Option (Int32) := bd1 (J_length 2) (fun (r_1 : Int32) => if r_1 ≤ x2 then (some (1 : Int32)) else (bd1 (J_charAt 2 x2) (fun (r_4 : Int32) => bd1 (T_byteAt (tsr + x2) tby) (fun (r_6 : Int32) => if r_4 = r_6 then (bnd (x2 + (1 : Int32)) (fun (x2_8 : Int32) => rc20 x2_8 tby tat tsr)) else (some (0 : Int32))))))
set_option maxHeartbeats 4000000 in
set_option maxRecDepth 100000 in
theorem bT_spells2_20 {At : Nat → Nat} {tby : Nat → Int32} {tnu : Nat → Int32} {tln : Int32} {tat : Int32} {tsr : Int32} {ttk : Int32} {tnm : Int32} {tit : Int32} {tft : Int32} {r0 : Int32} {x2 : Int32} {rc20 : Int32 → (Nat → Int32) → Int32 → Int32 → Option (Int32)} (X : Cx Γ p s m args meth c RX10 cX10_spells 3 (some .boolean) w0) (h20 : ∀ (x2 : Int32) (tby : Nat → Int32) (tat : Int32) (tsr : Int32), rc20 x2 tby tat tsr = some r0 → ∀ (H : Heap) (locs : List Loc) (ls : Array Slot), Wd Γ w0 s (WT Γ At tby tnu tln tat tsr ttk tnm tit tft) H locs → lv_has ls 3 [(0, .ref (At 0)), (1, .ref (Γ.2.2 12)), (2, .int x2)] → W p l e rmT_spells2 s m args below meth c H locs 0 0 (EI Γ below args s w0 (WT Γ At tby tnu tln tat tsr ttk tnm tit tft) r0) (F0 m 20 ls [])) (hf : T_spells2_20 rc20 x2 tby tat tsr = some r0) (Y : Wd Γ w0 s (WT Γ At tby tnu tln tat tsr ttk tnm tit tft) H locs) (hl : lv_has ls 3 [(0, .ref (At 0)), (1, .ref (Γ.2.2 12)), (2, .int x2)]) : W p l e rmT_spells2 s m args below meth c H locs 0 0 (EI Γ below args s w0 (WT Γ At tby tnu tln tat tsr ttk tnm tit tft) r0) (F0 m 20 ls []) := by
  have hx := X.1
  have hb := X.2.1
  refine lv_iload_n hx hb dX10_spells_20 rfl (lv_at hl 2 rfl) ?_
  refine lv_aload_n hx hb dX10_spells_21 rfl (lv_at hl 1 rfl) ?_
  obtain ⟨r_1, ho_2, hf⟩ := bd1_some hf
  refine t_i Y (bk0 Y) (r_V (As := []) (rest := [.int x2]) X (c_pre0 X Y) (cJ_length ho_2) (cwX10_125 X (by decide)) (vk_recv (i := 2) X.E.2.2.1 (by decide) Y.2.2) rfl hl.1 (Nat.le_of_ble_eq_true rfl) rfl dX10_spells_22 ⟨Nat.zero_le _, Nat.zero_le _⟩) (fun H locs Y => ?_)
  refine lv_icmp_ge (tgt := 54) hx hb dX10_spells_25 (by decide) (fun c_3 => ?_) (fun c_3 => ?_)
  · have hf := ite_t hf c_3
    refine lv_iconst (v := (1 : Int32)) hx hb dX10_spells_54 (by decide) ?_
    have e90 := Option.some.inj hf
    subst e90
    exact x_zret X Y rfl dX10_spells_55
  · have hf := ite_f hf c_3
    refine lv_aload_n hx hb dX10_spells_28 rfl (lv_at hl 1 rfl) ?_
    refine lv_iload_n hx hb dX10_spells_29 rfl (lv_at hl 2 rfl) ?_
    obtain ⟨r_4, ho_5, hf⟩ := bd1_some hf
    refine t_i Y (bk0 Y) (r_V (As := [.int x2]) (rest := []) X (c_pre0 X Y) (cJ_charAt ho_5) (cwX10_130 X (by decide)) (vk_recv (i := 2) X.E.2.2.1 (by decide) Y.2.2) rfl hl.1 (Nat.le_of_ble_eq_true rfl) rfl dX10_spells_30 ⟨Nat.zero_le _, Nat.zero_le _⟩) (fun H locs Y => ?_)
    refine lv_aload_n hx hb dX10_spells_33 rfl (lv_at hl 0 rfl) ?_
    refine lv_aload_n hx hb dX10_spells_34 rfl (lv_at hl 0 rfl) ?_
    refine gfX10_81 X Y (v := .int tsr) 0 rfl rfl dX10_spells_35 ?_
    refine lv_iload_n hx hb dX10_spells_38 rfl (lv_at hl 2 rfl) ?_
    refine lv_iadd hx hb dX10_spells_39 ?_
    obtain ⟨r_6, ho_9, hf⟩ := bd1_some hf
    refine t_i Y (bkS Y) (r_V (As := [.int (tsr + x2)]) (rest := [.int r_4]) X (c_preS X Y) (cT_byteAt ho_9) (cwX10_98 X (by decide)) (va_recv X.K Y.1 (q := (RX10, TX10, 9)) (q0 := 0) (ci := 10) rfl rfl) rfl hl.1 (Nat.le_of_ble_eq_true rfl) rfl dX10_spells_40 ⟨Nat.zero_le _, Nat.zero_le _⟩) (fun H locs Y => ?_)
    refine lv_icmp_eq (tgt := 48) hx hb dX10_spells_43 (by decide) (fun c_7 => ?_) (fun c_7 => ?_)
    · have hf := ite_t hf c_7
      obtain ⟨x2_8, e_x2_8⟩ : ∃ z : Int32, z = (x2 + (1 : Int32)) := ⟨_, rfl⟩
      have hf := bnd_eq hf e_x2_8
      refine lv_iinc (v := x2_8) (lv' := [(2, .int x2_8), (0, .ref (At 0)), (1, .ref (Γ.2.2 12))]) hx hb dX10_spells_48 hl (k := 2) rfl (by rw [e_x2_8]; rfl) (by decide) rfl (fun ls hl => ?_)
      refine lv_goto (tgt := 20) hx hb dX10_spells_51 (by decide) ?_
      exact h20 _ _ _ _ hf _ _ _ Y (lv_sub hl [1, 2, 0] rfl)
    · have hf := ite_f hf c_7
      refine lv_iconst (v := (0 : Int32)) hx hb dX10_spells_46 (by decide) ?_
      have e90 := Option.some.inj hf
      subst e90
      exact x_zret X Y rfl dX10_spells_47
def T_spells2_L20 : Nat → Int32 → (Nat → Int32) → Int32 → Int32 → Option (Int32)
  | 0, _, _, _, _ => none
  | n + 1, x2, tby, tat, tsr => T_spells2_20 (T_spells2_L20 n) x2 tby tat tsr
theorem lT_spells2_20 {At : Nat → Nat} {tnu : Nat → Int32} {tln : Int32} {ttk : Int32} {tnm : Int32} {tit : Int32} {tft : Int32} {r0 : Int32} (X : Cx Γ p s m args meth c RX10 cX10_spells 3 (some .boolean) w0) : ∀ (n : Nat) (x2 : Int32) (tby : Nat → Int32) (tat : Int32) (tsr : Int32), T_spells2_L20 n x2 tby tat tsr = some r0 → ∀ (H : Heap) (locs : List Loc) (ls : Array Slot), Wd Γ w0 s (WT Γ At tby tnu tln tat tsr ttk tnm tit tft) H locs → lv_has ls 3 [(0, .ref (At 0)), (1, .ref (Γ.2.2 12)), (2, .int x2)] → W p l e rmT_spells2 s m args below meth c H locs 0 0 (EI Γ below args s w0 (WT Γ At tby tnu tln tat tsr ttk tnm tit tft) r0) (F0 m 20 ls []) := by
  intro n
  induction n with
  | zero => intro x2 tby tat tsr hf; cases hf
  | succ n ih => intro x2 tby tat tsr hf H locs ls Y hl; exact bT_spells2_20 X ih hf Y hl
def T_spells2 (tby : Nat → Int32) (tat : Int32) (tsr : Int32) : Option (Int32) := bd1 (J_length 2) (fun (r_1 : Int32) => if r_1 = (tat - tsr) then (T_spells2_L20 FU (0 : Int32) tby tat tsr) else (some (0 : Int32)))
set_option maxHeartbeats 4000000 in
set_option maxRecDepth 100000 in
theorem bT_spells2_e {At : Nat → Nat} {tby : Nat → Int32} {tnu : Nat → Int32} {tln : Int32} {tat : Int32} {tsr : Int32} {ttk : Int32} {tnm : Int32} {tit : Int32} {tft : Int32} {r0 : Int32} (X : Cx Γ p s m args meth c RX10 cX10_spells 3 (some .boolean) w0) (hf : T_spells2 tby tat tsr = some r0) (Y : Wd Γ w0 s (WT Γ At tby tnu tln tat tsr ttk tnm tit tft) H locs) (hl : lv_has ls 3 [(0, .ref (At 0)), (1, .ref (Γ.2.2 12))]) : W p l e rmT_spells2 s m args below meth c H locs 0 0 (EI Γ below args s w0 (WT Γ At tby tnu tln tat tsr ttk tnm tit tft) r0) (F0 m 0 ls []) := by
  have hx := X.1
  have hb := X.2.1
  refine lv_aload_n hx hb dX10_spells_0 rfl (lv_at hl 1 rfl) ?_
  obtain ⟨r_1, ho_2, hf⟩ := bd1_some hf
  refine t_i Y (bk0 Y) (r_V (As := []) (rest := []) X (c_pre0 X Y) (cJ_length ho_2) (cwX10_125 X (by decide)) (vk_recv (i := 2) X.E.2.2.1 (by decide) Y.2.2) rfl hl.1 (Nat.le_of_ble_eq_true rfl) rfl dX10_spells_1 ⟨Nat.zero_le _, Nat.zero_le _⟩) (fun H locs Y => ?_)
  refine lv_aload_n hx hb dX10_spells_4 rfl (lv_at hl 0 rfl) ?_
  refine gfX10_27 X Y (v := .int tat) 0 rfl rfl dX10_spells_5 ?_
  refine lv_aload_n hx hb dX10_spells_8 rfl (lv_at hl 0 rfl) ?_
  refine gfX10_81 X Y (v := .int tsr) 0 rfl rfl dX10_spells_9 ?_
  refine lv_isub hx hb dX10_spells_12 ?_
  refine lv_icmp_eq (tgt := 18) hx hb dX10_spells_13 (by decide) (fun c_3 => ?_) (fun c_3 => ?_)
  · have hf := ite_t hf c_3
    refine lv_iconst (v := (0 : Int32)) hx hb dX10_spells_18 (by decide) ?_
    refine lv_istore_n (lv' := [(2, .int (0 : Int32)), (0, .ref (At 0)), (1, .ref (Γ.2.2 12))]) hx hb dX10_spells_19 rfl hl (by decide) rfl (fun ls hl => ?_)
    exact lT_spells2_20 X _ _ _ _ _ hf _ _ _ Y (lv_sub hl [1, 2, 0] rfl)
  · have hf := ite_f hf c_3
    refine lv_iconst (v := (0 : Int32)) hx hb dX10_spells_16 (by decide) ?_
    have e90 := Option.some.inj hf
    subst e90
    exact x_zret X Y rfl dX10_spells_17
theorem cT_spells2 {l : Launch} {Γ : Gm} {At : Nat → Nat} {tby : Nat → Int32} {tnu : Nat → Int32} {tln : Int32} {tat : Int32} {tsr : Int32} {ttk : Int32} {tnm : Int32} {tit : Int32} {tft : Int32} {r0 : Int32} (h : T_spells2 tby tat tsr = some r0) : CI l Γ yX10_spells (Cond.code yX10_spells cX10_spells 3 (some .boolean) :: GW) rmT_spells2 [.ref (At 0), .ref (Γ.2.2 12)] (WT Γ At tby tnu tln tat tsr ttk tnm tit tft) (WT Γ At tby tnu tln tat tsr ttk tnm tit tft) r0 := ofBody (Qc := QcI Γ _ _ r0) (by decide) (Nat.le_of_ble_eq_true rfl) (fun p e s m below meth c ls _ X Y hl => bT_spells2_e X h Y hl)
theorem pfX10_27 (X : Cx Γ p s m args meth c RX10 cc nL ret w0) (Y : Wd Γ w0 s ws H locs) (q0 : Nat) {fs : List Value} (he : ws[q0]? = some (a, .inr (10, fs))) {v : Value} (hn : narrow (tyX10 3) v = v) (hfit : fits (tyX10 3) v = true) (hl : 3 < fs.length) (hw : ws.set q0 (a, .inr (10, fs.set 3 v)) = ws') (hdg : decode cc pc = .ok (.putfield 27, 3)) (kk : ∀ (H1 : Heap) (locs1 : List Loc), Wd Γ w0 s ws' H1 locs1 → W p l e R s m args below meth c H1 locs1 cells slots Q (F0 m (pc + 3) ls rest)) : W p l e R s m args below meth c H locs cells slots Q (F0 m pc ls (v :: .ref a :: rest)) := x_put X Y iX10 tyX10 tyX10_ok nmX10 rfl 3 (by decide) rfl kw405 rfl q0 he hn hfit hl hw hdg kk
theorem dmX10_isLetterS : yX10_isLetter.cls ≠ "java/lang/invoke/MethodHandle" ∧ yX10_isLetter.cls ≠ "java/lang/invoke/VarHandle" ∧ (parseMethodDescriptor yX10_isLetter.desc).map (fun d => d.parameters.length) = some 1 := by decide +kernel
theorem cwX10_102 (X : Cx Γ p s m args meth c RX10 cc nL ret w0) (hR : rmT_isLetter.frames + 1 ≤ R.frames ∧ 8 + (1 + 11) + rmT_isLetter.locals ≤ R.locals) : CallB R s args RX10 102 yX10_isLetter cX10_isLetter 1 (some .boolean) (Cond.code yX10_isLetter cX10_isLetter 1 (some .boolean) :: GW) rmT_isLetter 0 0 1 ∧ (Cond.static yX10_isLetter).before args s = true := cw_S X kw421 kw422 kw415 kw423 dmX10_isLetterS rfl rfl hR
theorem dmX10_spellsV : yX10_spells.cls = RX10 ∧ yX10_spells.cls ≠ "java/lang/invoke/MethodHandle" ∧ yX10_spells.cls ≠ "java/lang/invoke/VarHandle" ∧ (parseMethodDescriptor yX10_spells.desc).map (fun d => d.parameters.length) = some 1 := by decide +kernel
theorem cwX10_117_T_spells2 (X : Cx Γ p s m args meth c RX10 cc nL ret w0) (hR : rmT_spells2.frames + 1 ≤ R.frames ∧ 8 + (3 + 11) + rmT_spells2.locals ≤ R.locals) : CallW R s args RX10 RX10 117 yX10_spells cX10_spells 3 (some .boolean) (Cond.code yX10_spells cX10_spells 3 (some .boolean) :: GW) rmT_spells2 0 0 1 := cw_V X kw424 kw425 kw426 kw415 kw427 dmX10_spellsV rfl rfl hR
theorem pfX10_39 (X : Cx Γ p s m args meth c RX10 cc nL ret w0) (Y : Wd Γ w0 s ws H locs) (q0 : Nat) {fs : List Value} (he : ws[q0]? = some (a, .inr (10, fs))) {v : Value} (hn : narrow (tyX10 5) v = v) (hfit : fits (tyX10 5) v = true) (hl : 5 < fs.length) (hw : ws.set q0 (a, .inr (10, fs.set 5 v)) = ws') (hdg : decode cc pc = .ok (.putfield 39, 3)) (kk : ∀ (H1 : Heap) (locs1 : List Loc), Wd Γ w0 s ws' H1 locs1 → W p l e R s m args below meth c H1 locs1 cells slots Q (F0 m (pc + 3) ls rest)) : W p l e R s m args below meth c H locs cells slots Q (F0 m pc ls (v :: .ref a :: rest)) := x_put X Y iX10 tyX10 tyX10_ok nmX10 rfl 5 (by decide) rfl kw428 rfl q0 he hn hfit hl hw hdg kk
theorem cwX10_117_T_spells1 (X : Cx Γ p s m args meth c RX10 cc nL ret w0) (hR : rmT_spells1.frames + 1 ≤ R.frames ∧ 8 + (3 + 11) + rmT_spells1.locals ≤ R.locals) : CallW R s args RX10 RX10 117 yX10_spells cX10_spells 3 (some .boolean) (Cond.code yX10_spells cX10_spells 3 (some .boolean) :: GW) rmT_spells1 0 0 1 := cw_V X kw424 kw425 kw426 kw415 kw427 dmX10_spellsV rfl rfl hR
theorem cwX10_117_T_spells0 (X : Cx Γ p s m args meth c RX10 cc nL ret w0) (hR : rmT_spells0.frames + 1 ≤ R.frames ∧ 8 + (3 + 11) + rmT_spells0.locals ≤ R.locals) : CallW R s args RX10 RX10 117 yX10_spells cX10_spells 3 (some .boolean) (Cond.code yX10_spells cX10_spells 3 (some .boolean) :: GW) rmT_spells0 0 0 1 := cw_V X kw424 kw425 kw426 kw415 kw427 dmX10_spellsV rfl rfl hR
def rmT_takeWord : Room := { frames := 5, cells := 0, slots := 0, locals := 107 }
def T_takeWord_88 (y0 : Int32) (tby : Nat → Int32) (tln : Int32) (tat : Int32) (tsr : Int32) (ttk : Int32) : Option (Int32 × Int32) := some (tat, y0)
set_option maxHeartbeats 4000000 in
set_option maxRecDepth 100000 in
theorem bT_takeWord_88 {At : Nat → Nat} {tby : Nat → Int32} {tnu : Nat → Int32} {tln : Int32} {tat : Int32} {tsr : Int32} {ttk : Int32} {tnm : Int32} {tit : Int32} {tft : Int32} {tat_z : Int32} {ttk_z : Int32} {y0 : Int32} (X : Cx Γ p s m args meth c RX10 cX10_takeWord 1 none w0) (hf : T_takeWord_88 y0 tby tln tat tsr ttk = some (tat_z, ttk_z)) (Y : Wd Γ w0 s (WT Γ At tby tnu tln tat tsr ttk tnm tit tft) H locs) (hl : lv_has ls 1 []) : W p l e rmT_takeWord s m args below meth c H locs 0 0 (EV Γ below args s w0 (WT Γ At tby tnu tln tat_z tsr ttk_z tnm tit tft)) (F0 m 88 ls [.int y0, .ref (At 0)]) := by
  have hx := X.1
  have hb := X.2.1
  refine pfX10_39 X Y 0 rfl rfl rfl (Nat.le_of_ble_eq_true rfl) (ws' := (WT Γ At tby tnu tln tat tsr y0 tnm tit tft)) rfl dX10_takeWord_88 (fun H locs Y => ?_)
  obtain ⟨e90, e91⟩ := sj2 hf
  subst e90
  subst e91
  exact x_vret X Y dX10_takeWord_91
def T_takeWord_38 (tby : Nat → Int32) (tln : Int32) (tat : Int32) (tsr : Int32) (ttk : Int32) : Option (Int32 × Int32) := bd1 (T_spells0 tby tat tsr) (fun (r_1 : Int32) => if r_1 = 0 then (bd1 (T_spells1 tby tat tsr) (fun (r_3 : Int32) => if r_3 = 0 then (bd1 (T_spells2 tby tat tsr) (fun (r_5 : Int32) => if r_5 = 0 then (T_takeWord_88 (6 : Int32) tby tln tat tsr ttk) else (T_takeWord_88 (3 : Int32) tby tln tat tsr ttk))) else (some (tat, (2 : Int32))))) else (some (tat, (1 : Int32))))
set_option maxHeartbeats 4000000 in
set_option maxRecDepth 100000 in
theorem bT_takeWord_38 {At : Nat → Nat} {tby : Nat → Int32} {tnu : Nat → Int32} {tln : Int32} {tat : Int32} {tsr : Int32} {ttk : Int32} {tnm : Int32} {tit : Int32} {tft : Int32} {tat_z : Int32} {ttk_z : Int32} (X : Cx Γ p s m args meth c RX10 cX10_takeWord 1 none w0) (hf : T_takeWord_38 tby tln tat tsr ttk = some (tat_z, ttk_z)) (Y : Wd Γ w0 s (WT Γ At tby tnu tln tat tsr ttk tnm tit tft) H locs) (hl : lv_has ls 1 [(0, .ref (At 0))]) : W p l e rmT_takeWord s m args below meth c H locs 0 0 (EV Γ below args s w0 (WT Γ At tby tnu tln tat_z tsr ttk_z tnm tit tft)) (F0 m 38 ls []) := by
  have hx := X.1
  have hb := X.2.1
  refine lv_aload_n hx hb dX10_takeWord_38 rfl (lv_at hl 0 rfl) ?_
  refine va_ldcS (q := Γ.2.2 10) hx hb X.2.2.2.1 (X.E.2.2.2.1 0 _ rfl) dX10_takeWord_39 ?_
  obtain ⟨r_1, ho_9, hf⟩ := bd1_some hf
  refine t_i Y (bkS Y) (r_V (As := [.ref (Γ.2.2 10)]) (rest := []) X (c_preS X Y) (cT_spells0 ho_9) (cwX10_117_T_spells0 X (by decide)) (va_recv X.K Y.1 (q := (RX10, TX10, 9)) (q0 := 0) (ci := 10) rfl rfl) rfl hl.1 (Nat.le_of_ble_eq_true rfl) rfl dX10_takeWord_41 ⟨Nat.zero_le _, Nat.zero_le _⟩) (fun H locs Y => ?_)
  refine lv_if_eq (tgt := 55) hx hb dX10_takeWord_44 (by decide) (fun c_2 => ?_) (fun c_2 => ?_)
  · have hf := ite_t hf c_2
    refine lv_aload_n hx hb dX10_takeWord_55 rfl (lv_at hl 0 rfl) ?_
    refine va_ldcS (q := Γ.2.2 11) hx hb X.2.2.2.1 (X.E.2.2.2.1 1 _ rfl) dX10_takeWord_56 ?_
    obtain ⟨r_3, ho_8, hf⟩ := bd1_some hf
    refine t_i Y (bkS Y) (r_V (As := [.ref (Γ.2.2 11)]) (rest := []) X (c_preS X Y) (cT_spells1 ho_8) (cwX10_117_T_spells1 X (by decide)) (va_recv X.K Y.1 (q := (RX10, TX10, 9)) (q0 := 0) (ci := 10) rfl rfl) rfl hl.1 (Nat.le_of_ble_eq_true rfl) rfl dX10_takeWord_58 ⟨Nat.zero_le _, Nat.zero_le _⟩) (fun H locs Y => ?_)
    refine lv_if_eq (tgt := 72) hx hb dX10_takeWord_61 (by decide) (fun c_4 => ?_) (fun c_4 => ?_)
    · have hf := ite_t hf c_4
      refine lv_aload_n hx hb dX10_takeWord_72 rfl (lv_at hl 0 rfl) ?_
      refine lv_aload_n hx hb dX10_takeWord_73 rfl (lv_at hl 0 rfl) ?_
      refine va_ldcS (q := Γ.2.2 12) hx hb X.2.2.2.1 (X.E.2.2.2.1 2 _ rfl) dX10_takeWord_74 ?_
      obtain ⟨r_5, ho_7, hf⟩ := bd1_some hf
      refine t_i Y (bkS Y) (r_V (As := [.ref (Γ.2.2 12)]) (rest := [.ref (At 0)]) X (c_preS X Y) (cT_spells2 ho_7) (cwX10_117_T_spells2 X (by decide)) (va_recv X.K Y.1 (q := (RX10, TX10, 9)) (q0 := 0) (ci := 10) rfl rfl) rfl hl.1 (Nat.le_of_ble_eq_true rfl) rfl dX10_takeWord_76 ⟨Nat.zero_le _, Nat.zero_le _⟩) (fun H locs Y => ?_)
      refine lv_if_eq (tgt := 86) hx hb dX10_takeWord_79 (by decide) (fun c_6 => ?_) (fun c_6 => ?_)
      · have hf := ite_t hf c_6
        refine lv_bipush (v := (6 : Int32)) hx hb dX10_takeWord_86 (by decide) ?_
        exact bT_takeWord_88 X hf Y (lv_sub hl [] rfl)
      · have hf := ite_f hf c_6
        refine lv_iconst (v := (3 : Int32)) hx hb dX10_takeWord_82 (by decide) ?_
        refine lv_goto (tgt := 88) hx hb dX10_takeWord_83 (by decide) ?_
        exact bT_takeWord_88 X hf Y (lv_sub hl [] rfl)
    · have hf := ite_f hf c_4
      refine lv_aload_n hx hb dX10_takeWord_64 rfl (lv_at hl 0 rfl) ?_
      refine lv_iconst (v := (2 : Int32)) hx hb dX10_takeWord_65 (by decide) ?_
      refine pfX10_39 X Y 0 rfl rfl rfl (Nat.le_of_ble_eq_true rfl) (ws' := (WT Γ At tby tnu tln tat tsr (2 : Int32) tnm tit tft)) rfl dX10_takeWord_66 (fun H locs Y => ?_)
      refine lv_goto (tgt := 91) hx hb dX10_takeWord_69 (by decide) ?_
      obtain ⟨e90, e91⟩ := sj2 hf
      subst e90
      subst e91
      exact x_vret X Y dX10_takeWord_91
  · have hf := ite_f hf c_2
    refine lv_aload_n hx hb dX10_takeWord_47 rfl (lv_at hl 0 rfl) ?_
    refine lv_iconst (v := (1 : Int32)) hx hb dX10_takeWord_48 (by decide) ?_
    refine pfX10_39 X Y 0 rfl rfl rfl (Nat.le_of_ble_eq_true rfl) (ws' := (WT Γ At tby tnu tln tat tsr (1 : Int32) tnm tit tft)) rfl dX10_takeWord_49 (fun H locs Y => ?_)
    refine lv_goto (tgt := 91) hx hb dX10_takeWord_52 (by decide) ?_
    obtain ⟨e90, e91⟩ := sj2 hf
    subst e90
    subst e91
    exact x_vret X Y dX10_takeWord_91
def T_takeWord_0 (rc0 : (Nat → Int32) → Int32 → Int32 → Int32 → Int32 → Option (Int32 × Int32)) (tby : Nat → Int32) (tln : Int32) (tat : Int32) (tsr : Int32) (ttk : Int32) : Option (Int32 × Int32) := if tln ≤ tat then (T_takeWord_38 tby tln tat tsr ttk) else (bd1 (T_byteAt tat tby) (fun (r_2 : Int32) => bd1 (T_isLetter r_2) (fun (r_3 : Int32) => if r_3 = 0 then (T_takeWord_38 tby tln tat tsr ttk) else (bnd (tat + (1 : Int32)) (fun (tat_5 : Int32) => rc0 tby tln tat_5 tsr ttk)))))
set_option maxHeartbeats 4000000 in
set_option maxRecDepth 100000 in
theorem bT_takeWord_0 {At : Nat → Nat} {tby : Nat → Int32} {tnu : Nat → Int32} {tln : Int32} {tat : Int32} {tsr : Int32} {ttk : Int32} {tnm : Int32} {tit : Int32} {tft : Int32} {tat_z : Int32} {ttk_z : Int32} {rc0 : (Nat → Int32) → Int32 → Int32 → Int32 → Int32 → Option (Int32 × Int32)} (X : Cx Γ p s m args meth c RX10 cX10_takeWord 1 none w0) (h0 : ∀ (tby : Nat → Int32) (tln : Int32) (tat : Int32) (tsr : Int32) (ttk : Int32), rc0 tby tln tat tsr ttk = some (tat_z, ttk_z) → ∀ (H : Heap) (locs : List Loc) (ls : Array Slot), Wd Γ w0 s (WT Γ At tby tnu tln tat tsr ttk tnm tit tft) H locs → lv_has ls 1 [(0, .ref (At 0))] → W p l e rmT_takeWord s m args below meth c H locs 0 0 (EV Γ below args s w0 (WT Γ At tby tnu tln tat_z tsr ttk_z tnm tit tft)) (F0 m 0 ls [])) (hf : T_takeWord_0 rc0 tby tln tat tsr ttk = some (tat_z, ttk_z)) (Y : Wd Γ w0 s (WT Γ At tby tnu tln tat tsr ttk tnm tit tft) H locs) (hl : lv_has ls 1 [(0, .ref (At 0))]) : W p l e rmT_takeWord s m args below meth c H locs 0 0 (EV Γ below args s w0 (WT Γ At tby tnu tln tat_z tsr ttk_z tnm tit tft)) (F0 m 0 ls []) := by
  have hx := X.1
  have hb := X.2.1
  refine lv_aload_n hx hb dX10_takeWord_0 rfl (lv_at hl 0 rfl) ?_
  refine gfX10_27 X Y (v := .int tat) 0 rfl rfl dX10_takeWord_1 ?_
  refine lv_aload_n hx hb dX10_takeWord_4 rfl (lv_at hl 0 rfl) ?_
  refine gfX10_19 X Y (v := .int tln) 0 rfl rfl dX10_takeWord_5 ?_
  refine lv_icmp_ge (tgt := 38) hx hb dX10_takeWord_8 (by decide) (fun c_1 => ?_) (fun c_1 => ?_)
  · have hf := ite_t hf c_1
    exact bT_takeWord_38 X hf Y (lv_sub hl [0] rfl)
  · have hf := ite_f hf c_1
    refine lv_aload_n hx hb dX10_takeWord_11 rfl (lv_at hl 0 rfl) ?_
    refine lv_aload_n hx hb dX10_takeWord_12 rfl (lv_at hl 0 rfl) ?_
    refine gfX10_27 X Y (v := .int tat) 0 rfl rfl dX10_takeWord_13 ?_
    obtain ⟨r_2, ho_7, hf⟩ := bd1_some hf
    refine t_i Y (bkS Y) (r_V (As := [.int tat]) (rest := []) X (c_preS X Y) (cT_byteAt ho_7) (cwX10_98 X (by decide)) (va_recv X.K Y.1 (q := (RX10, TX10, 9)) (q0 := 0) (ci := 10) rfl rfl) rfl hl.1 (Nat.le_of_ble_eq_true rfl) rfl dX10_takeWord_16 ⟨Nat.zero_le _, Nat.zero_le _⟩) (fun H locs Y => ?_)
    obtain ⟨r_3, ho_6, hf⟩ := bd1_some hf
    refine t_i Y (bk0 Y) (r_S (As := [.int r_2]) (rest := []) X (c_pre0 X Y) (cT_isLetter ho_6) (cwX10_102 X (by decide)) rfl hl.1 (Nat.le_of_ble_eq_true rfl) rfl dX10_takeWord_19 ⟨Nat.zero_le _, Nat.zero_le _⟩) (fun H locs Y => ?_)
    refine lv_if_eq (tgt := 38) hx hb dX10_takeWord_22 (by decide) (fun c_4 => ?_) (fun c_4 => ?_)
    · have hf := ite_t hf c_4
      exact bT_takeWord_38 X hf Y (lv_sub hl [0] rfl)
    · have hf := ite_f hf c_4
      refine lv_aload_n hx hb dX10_takeWord_25 rfl (lv_at hl 0 rfl) ?_
      refine lv_dup hx hb dX10_takeWord_26 rfl ?_
      refine gfX10_27 X Y (v := .int tat) 0 rfl rfl dX10_takeWord_27 ?_
      refine lv_iconst (v := (1 : Int32)) hx hb dX10_takeWord_30 (by decide) ?_
      refine lv_iadd hx hb dX10_takeWord_31 ?_
      refine lv_topi (fun tat_5 e_tat_5 => ?_)
      have hf := bnd_eq hf e_tat_5
      refine pfX10_27 X Y 0 rfl rfl rfl (Nat.le_of_ble_eq_true rfl) (ws' := (WT Γ At tby tnu tln tat_5 tsr ttk tnm tit tft)) rfl dX10_takeWord_32 (fun H locs Y => ?_)
      refine lv_goto (tgt := 0) hx hb dX10_takeWord_35 (by decide) ?_
      exact h0 _ _ _ _ _ hf _ _ _ Y (lv_sub hl [0] rfl)
def T_takeWord_L0 : Nat → (Nat → Int32) → Int32 → Int32 → Int32 → Int32 → Option (Int32 × Int32)
  | 0, _, _, _, _, _ => none
  | n + 1, tby, tln, tat, tsr, ttk => T_takeWord_0 (T_takeWord_L0 n) tby tln tat tsr ttk
theorem lT_takeWord_0 {At : Nat → Nat} {tnu : Nat → Int32} {tnm : Int32} {tit : Int32} {tft : Int32} {tat_z : Int32} {ttk_z : Int32} (X : Cx Γ p s m args meth c RX10 cX10_takeWord 1 none w0) : ∀ (n : Nat) (tby : Nat → Int32) (tln : Int32) (tat : Int32) (tsr : Int32) (ttk : Int32), T_takeWord_L0 n tby tln tat tsr ttk = some (tat_z, ttk_z) → ∀ (H : Heap) (locs : List Loc) (ls : Array Slot), Wd Γ w0 s (WT Γ At tby tnu tln tat tsr ttk tnm tit tft) H locs → lv_has ls 1 [(0, .ref (At 0))] → W p l e rmT_takeWord s m args below meth c H locs 0 0 (EV Γ below args s w0 (WT Γ At tby tnu tln tat_z tsr ttk_z tnm tit tft)) (F0 m 0 ls []) := by
  intro n
  induction n with
  | zero => intro tby tln tat tsr ttk hf; cases hf
  | succ n ih => intro tby tln tat tsr ttk hf H locs ls Y hl; exact bT_takeWord_0 X ih hf Y hl
def T_takeWord (tby : Nat → Int32) (tln : Int32) (tat : Int32) (tsr : Int32) (ttk : Int32) : Option (Int32 × Int32) := T_takeWord_L0 FU tby tln tat tsr ttk
set_option maxHeartbeats 4000000 in
set_option maxRecDepth 100000 in
theorem bT_takeWord_e {At : Nat → Nat} {tby : Nat → Int32} {tnu : Nat → Int32} {tln : Int32} {tat : Int32} {tsr : Int32} {ttk : Int32} {tnm : Int32} {tit : Int32} {tft : Int32} {tat_z : Int32} {ttk_z : Int32} (X : Cx Γ p s m args meth c RX10 cX10_takeWord 1 none w0) (hf : T_takeWord tby tln tat tsr ttk = some (tat_z, ttk_z)) (Y : Wd Γ w0 s (WT Γ At tby tnu tln tat tsr ttk tnm tit tft) H locs) (hl : lv_has ls 1 [(0, .ref (At 0))]) : W p l e rmT_takeWord s m args below meth c H locs 0 0 (EV Γ below args s w0 (WT Γ At tby tnu tln tat_z tsr ttk_z tnm tit tft)) (F0 m 0 ls []) := by
  have hx := X.1
  have hb := X.2.1
  exact lT_takeWord_0 X _ _ _ _ _ _ hf _ _ _ Y (lv_sub hl [0] rfl)
theorem cT_takeWord {l : Launch} {Γ : Gm} {At : Nat → Nat} {tby : Nat → Int32} {tnu : Nat → Int32} {tln : Int32} {tat : Int32} {tsr : Int32} {ttk : Int32} {tnm : Int32} {tit : Int32} {tft : Int32} {tat_z : Int32} {ttk_z : Int32} (h : T_takeWord tby tln tat tsr ttk = some (tat_z, ttk_z)) : CV l Γ yX10_takeWord (Cond.code yX10_takeWord cX10_takeWord 1 none :: GW) rmT_takeWord [.ref (At 0)] (WT Γ At tby tnu tln tat tsr ttk tnm tit tft) (WT Γ At tby tnu tln tat_z tsr ttk_z tnm tit tft) := ofBody (Qc := QcV Γ _ _) (by decide) (Nat.le_of_ble_eq_true rfl) (fun p e s m below meth c ls _ X Y hl => bT_takeWord_e X h Y hl)
theorem pfX10_84 (X : Cx Γ p s m args meth c RX10 cc nL ret w0) (Y : Wd Γ w0 s ws H locs) (q0 : Nat) {fs : List Value} (he : ws[q0]? = some (a, .inr (10, fs))) {v : Value} (hn : narrow (tyX10 6) v = v) (hfit : fits (tyX10 6) v = true) (hl : 6 < fs.length) (hw : ws.set q0 (a, .inr (10, fs.set 6 v)) = ws') (hdg : decode cc pc = .ok (.putfield 84, 3)) (kk : ∀ (H1 : Heap) (locs1 : List Loc), Wd Γ w0 s ws' H1 locs1 → W p l e R s m args below meth c H1 locs1 cells slots Q (F0 m (pc + 3) ls rest)) : W p l e R s m args below meth c H locs cells slots Q (F0 m pc ls (v :: .ref a :: rest)) := x_put X Y iX10 tyX10 tyX10_ok nmX10 rfl 6 (by decide) rfl kw429 rfl q0 he hn hfit hl hw hdg kk
theorem gfX10_84 (X : Cx Γ p s m args meth c RX10 cc nL ret w0) (Y : Wd Γ w0 s ws H locs) {v : Value} (q0 : Nat) {fs : List Value} (he : ws[q0]? = some (a, .inr (10, fs))) (hv : fs[6]? = some v) (hdg : decode cc pc = .ok (.getfield 84, 3)) (kk : W p l e R s m args below meth c H locs cells slots Q (F0 m (pc + 3) ls (v :: rest))) : W p l e R s m args below meth c H locs cells slots Q (F0 m pc ls (.ref a :: rest)) := x_get X Y iX10 rfl 6 (by decide) rfl kw429 q0 he hv hdg kk
theorem dmX10_isFigureS : yX10_isFigure.cls ≠ "java/lang/invoke/MethodHandle" ∧ yX10_isFigure.cls ≠ "java/lang/invoke/VarHandle" ∧ (parseMethodDescriptor yX10_isFigure.desc).map (fun d => d.parameters.length) = some 1 := by decide +kernel
theorem cwX10_109 (X : Cx Γ p s m args meth c RX10 cc nL ret w0) (hR : rmT_isFigure.frames + 1 ≤ R.frames ∧ 8 + (1 + 11) + rmT_isFigure.locals ≤ R.locals) : CallB R s args RX10 109 yX10_isFigure cX10_isFigure 1 (some .boolean) (Cond.code yX10_isFigure cX10_isFigure 1 (some .boolean) :: GW) rmT_isFigure 0 0 1 ∧ (Cond.static yX10_isFigure).before args s = true := cw_S X kw430 kw431 kw415 kw432 dmX10_isFigureS rfl rfl hR
def rmT_takeFigures : Room := { frames := 1, cells := 0, slots := 0, locals := 21 }
def T_takeFigures_66 (rc5 : (Nat → Int32) → Int32 → Int32 → Int32 → Int32 → Int32 → Option (Int32 × Int32 × Int32)) (tby : Nat → Int32) (tln : Int32) (tat : Int32) (tsr : Int32) (ttk : Int32) (tnm : Int32) : Option (Int32 × Int32 × Int32) := bnd (tat + (1 : Int32)) (fun (tat_1 : Int32) => rc5 tby tln tat_1 tsr ttk tnm)
set_option maxHeartbeats 4000000 in
set_option maxRecDepth 100000 in
theorem bT_takeFigures_66 {At : Nat → Nat} {tby : Nat → Int32} {tnu : Nat → Int32} {tln : Int32} {tat : Int32} {tsr : Int32} {ttk : Int32} {tnm : Int32} {tit : Int32} {tft : Int32} {tat_z : Int32} {ttk_z : Int32} {tnm_z : Int32} {rc5 : (Nat → Int32) → Int32 → Int32 → Int32 → Int32 → Int32 → Option (Int32 × Int32 × Int32)} (X : Cx Γ p s m args meth c RX10 cX10_takeFigures 1 none w0) (h5 : ∀ (tby : Nat → Int32) (tln : Int32) (tat : Int32) (tsr : Int32) (ttk : Int32) (tnm : Int32), rc5 tby tln tat tsr ttk tnm = some (tat_z, ttk_z, tnm_z) → ∀ (H : Heap) (locs : List Loc) (ls : Array Slot), Wd Γ w0 s (WT Γ At tby tnu tln tat tsr ttk tnm tit tft) H locs → lv_has ls 1 [(0, .ref (At 0))] → W p l e rmT_takeFigures s m args below meth c H locs 0 0 (EV Γ below args s w0 (WT Γ At tby tnu tln tat_z tsr ttk_z tnm_z tit tft)) (F0 m 5 ls [])) (hf : T_takeFigures_66 rc5 tby tln tat tsr ttk tnm = some (tat_z, ttk_z, tnm_z)) (Y : Wd Γ w0 s (WT Γ At tby tnu tln tat tsr ttk tnm tit tft) H locs) (hl : lv_has ls 1 [(0, .ref (At 0))]) : W p l e rmT_takeFigures s m args below meth c H locs 0 0 (EV Γ below args s w0 (WT Γ At tby tnu tln tat_z tsr ttk_z tnm_z tit tft)) (F0 m 66 ls []) := by
  have hx := X.1
  have hb := X.2.1
  refine lv_aload_n hx hb dX10_takeFigures_66 rfl (lv_at hl 0 rfl) ?_
  refine lv_dup hx hb dX10_takeFigures_67 rfl ?_
  refine gfX10_27 X Y (v := .int tat) 0 rfl rfl dX10_takeFigures_68 ?_
  refine lv_iconst (v := (1 : Int32)) hx hb dX10_takeFigures_71 (by decide) ?_
  refine lv_iadd hx hb dX10_takeFigures_72 ?_
  refine lv_topi (fun tat_1 e_tat_1 => ?_)
  have hf := bnd_eq hf e_tat_1
  refine pfX10_27 X Y 0 rfl rfl rfl (Nat.le_of_ble_eq_true rfl) (ws' := (WT Γ At tby tnu tln tat_1 tsr ttk tnm tit tft)) rfl dX10_takeFigures_73 (fun H locs Y => ?_)
  refine lv_goto (tgt := 5) hx hb dX10_takeFigures_76 (by decide) ?_
  exact h5 _ _ _ _ _ _ hf _ _ _ Y (lv_sub hl [0] rfl)
def T_takeFigures_99 (y0 : Int32) (tby : Nat → Int32) (tln : Int32) (tat : Int32) (tsr : Int32) (ttk : Int32) (tnm : Int32) : Option (Int32 × Int32 × Int32) := some (tat, y0, tnm)
set_option maxHeartbeats 4000000 in
set_option maxRecDepth 100000 in
theorem bT_takeFigures_99 {At : Nat → Nat} {tby : Nat → Int32} {tnu : Nat → Int32} {tln : Int32} {tat : Int32} {tsr : Int32} {ttk : Int32} {tnm : Int32} {tit : Int32} {tft : Int32} {tat_z : Int32} {ttk_z : Int32} {tnm_z : Int32} {y0 : Int32} (X : Cx Γ p s m args meth c RX10 cX10_takeFigures 1 none w0) (hf : T_takeFigures_99 y0 tby tln tat tsr ttk tnm = some (tat_z, ttk_z, tnm_z)) (Y : Wd Γ w0 s (WT Γ At tby tnu tln tat tsr ttk tnm tit tft) H locs) (hl : lv_has ls 1 []) : W p l e rmT_takeFigures s m args below meth c H locs 0 0 (EV Γ below args s w0 (WT Γ At tby tnu tln tat_z tsr ttk_z tnm_z tit tft)) (F0 m 99 ls [.int y0, .ref (At 0)]) := by
  have hx := X.1
  have hb := X.2.1
  refine pfX10_39 X Y 0 rfl rfl rfl (Nat.le_of_ble_eq_true rfl) (ws' := (WT Γ At tby tnu tln tat tsr y0 tnm tit tft)) rfl dX10_takeFigures_99 (fun H locs Y => ?_)
  obtain ⟨e90, e91, e92⟩ := sj3 hf
  subst e90
  subst e91
  subst e92
  exact x_vret X Y dX10_takeFigures_102
def T_takeFigures_79 (tby : Nat → Int32) (tln : Int32) (tat : Int32) (tsr : Int32) (ttk : Int32) (tnm : Int32) : Option (Int32 × Int32 × Int32) := if (3 : Int32) < (tat - tsr) then (T_takeFigures_99 (6 : Int32) tby tln tat tsr ttk tnm) else (T_takeFigures_99 (4 : Int32) tby tln tat tsr ttk tnm)
set_option maxHeartbeats 4000000 in
set_option maxRecDepth 100000 in
theorem bT_takeFigures_79 {At : Nat → Nat} {tby : Nat → Int32} {tnu : Nat → Int32} {tln : Int32} {tat : Int32} {tsr : Int32} {ttk : Int32} {tnm : Int32} {tit : Int32} {tft : Int32} {tat_z : Int32} {ttk_z : Int32} {tnm_z : Int32} (X : Cx Γ p s m args meth c RX10 cX10_takeFigures 1 none w0) (hf : T_takeFigures_79 tby tln tat tsr ttk tnm = some (tat_z, ttk_z, tnm_z)) (Y : Wd Γ w0 s (WT Γ At tby tnu tln tat tsr ttk tnm tit tft) H locs) (hl : lv_has ls 1 [(0, .ref (At 0))]) : W p l e rmT_takeFigures s m args below meth c H locs 0 0 (EV Γ below args s w0 (WT Γ At tby tnu tln tat_z tsr ttk_z tnm_z tit tft)) (F0 m 79 ls []) := by
  have hx := X.1
  have hb := X.2.1
  refine lv_aload_n hx hb dX10_takeFigures_79 rfl (lv_at hl 0 rfl) ?_
  refine lv_aload_n hx hb dX10_takeFigures_80 rfl (lv_at hl 0 rfl) ?_
  refine gfX10_27 X Y (v := .int tat) 0 rfl rfl dX10_takeFigures_81 ?_
  refine lv_aload_n hx hb dX10_takeFigures_84 rfl (lv_at hl 0 rfl) ?_
  refine gfX10_81 X Y (v := .int tsr) 0 rfl rfl dX10_takeFigures_85 ?_
  refine lv_isub hx hb dX10_takeFigures_88 ?_
  refine lv_iconst (v := (3 : Int32)) hx hb dX10_takeFigures_89 (by decide) ?_
  refine lv_icmp_gt (tgt := 97) hx hb dX10_takeFigures_90 (by decide) (fun c_1 => ?_) (fun c_1 => ?_)
  · have hf := ite_t hf c_1
    refine lv_bipush (v := (6 : Int32)) hx hb dX10_takeFigures_97 (by decide) ?_
    exact bT_takeFigures_99 X hf Y (lv_sub hl [] rfl)
  · have hf := ite_f hf c_1
    refine lv_iconst (v := (4 : Int32)) hx hb dX10_takeFigures_93 (by decide) ?_
    refine lv_goto (tgt := 99) hx hb dX10_takeFigures_94 (by decide) ?_
    exact bT_takeFigures_99 X hf Y (lv_sub hl [] rfl)
def T_takeFigures_5 (rc5 : (Nat → Int32) → Int32 → Int32 → Int32 → Int32 → Int32 → Option (Int32 × Int32 × Int32)) (tby : Nat → Int32) (tln : Int32) (tat : Int32) (tsr : Int32) (ttk : Int32) (tnm : Int32) : Option (Int32 × Int32 × Int32) := if tln ≤ tat then (T_takeFigures_79 tby tln tat tsr ttk tnm) else (bd1 (T_byteAt tat tby) (fun (r_2 : Int32) => bd1 (T_isFigure r_2) (fun (r_3 : Int32) => if r_3 = 0 then (T_takeFigures_79 tby tln tat tsr ttk tnm) else (if (3 : Int32) ≤ (tat - tsr) then (T_takeFigures_66 rc5 tby tln tat tsr ttk tnm) else (bd1 (T_byteAt tat tby) (fun (r_6 : Int32) => bnd (((tnm * (10 : Int32)) + r_6) - (48 : Int32)) (fun (tnm_7 : Int32) => T_takeFigures_66 rc5 tby tln tat tsr ttk tnm_7)))))))
set_option maxHeartbeats 4000000 in
set_option maxRecDepth 100000 in
theorem bT_takeFigures_5 {At : Nat → Nat} {tby : Nat → Int32} {tnu : Nat → Int32} {tln : Int32} {tat : Int32} {tsr : Int32} {ttk : Int32} {tnm : Int32} {tit : Int32} {tft : Int32} {tat_z : Int32} {ttk_z : Int32} {tnm_z : Int32} {rc5 : (Nat → Int32) → Int32 → Int32 → Int32 → Int32 → Int32 → Option (Int32 × Int32 × Int32)} (X : Cx Γ p s m args meth c RX10 cX10_takeFigures 1 none w0) (h5 : ∀ (tby : Nat → Int32) (tln : Int32) (tat : Int32) (tsr : Int32) (ttk : Int32) (tnm : Int32), rc5 tby tln tat tsr ttk tnm = some (tat_z, ttk_z, tnm_z) → ∀ (H : Heap) (locs : List Loc) (ls : Array Slot), Wd Γ w0 s (WT Γ At tby tnu tln tat tsr ttk tnm tit tft) H locs → lv_has ls 1 [(0, .ref (At 0))] → W p l e rmT_takeFigures s m args below meth c H locs 0 0 (EV Γ below args s w0 (WT Γ At tby tnu tln tat_z tsr ttk_z tnm_z tit tft)) (F0 m 5 ls [])) (hf : T_takeFigures_5 rc5 tby tln tat tsr ttk tnm = some (tat_z, ttk_z, tnm_z)) (Y : Wd Γ w0 s (WT Γ At tby tnu tln tat tsr ttk tnm tit tft) H locs) (hl : lv_has ls 1 [(0, .ref (At 0))]) : W p l e rmT_takeFigures s m args below meth c H locs 0 0 (EV Γ below args s w0 (WT Γ At tby tnu tln tat_z tsr ttk_z tnm_z tit tft)) (F0 m 5 ls []) := by
  have hx := X.1
  have hb := X.2.1
  refine lv_aload_n hx hb dX10_takeFigures_5 rfl (lv_at hl 0 rfl) ?_
  refine gfX10_27 X Y (v := .int tat) 0 rfl rfl dX10_takeFigures_6 ?_
  refine lv_aload_n hx hb dX10_takeFigures_9 rfl (lv_at hl 0 rfl) ?_
  refine gfX10_19 X Y (v := .int tln) 0 rfl rfl dX10_takeFigures_10 ?_
  refine lv_icmp_ge (tgt := 79) hx hb dX10_takeFigures_13 (by decide) (fun c_1 => ?_) (fun c_1 => ?_)
  · have hf := ite_t hf c_1
    exact bT_takeFigures_79 X hf Y (lv_sub hl [0] rfl)
  · have hf := ite_f hf c_1
    refine lv_aload_n hx hb dX10_takeFigures_16 rfl (lv_at hl 0 rfl) ?_
    refine lv_aload_n hx hb dX10_takeFigures_17 rfl (lv_at hl 0 rfl) ?_
    refine gfX10_27 X Y (v := .int tat) 0 rfl rfl dX10_takeFigures_18 ?_
    obtain ⟨r_2, ho_10, hf⟩ := bd1_some hf
    refine t_i Y (bkS Y) (r_V (As := [.int tat]) (rest := []) X (c_preS X Y) (cT_byteAt ho_10) (cwX10_98 X (by decide)) (va_recv X.K Y.1 (q := (RX10, TX10, 9)) (q0 := 0) (ci := 10) rfl rfl) rfl hl.1 (Nat.le_of_ble_eq_true rfl) rfl dX10_takeFigures_21 ⟨Nat.zero_le _, Nat.zero_le _⟩) (fun H locs Y => ?_)
    obtain ⟨r_3, ho_9, hf⟩ := bd1_some hf
    refine t_i Y (bk0 Y) (r_S (As := [.int r_2]) (rest := []) X (c_pre0 X Y) (cT_isFigure ho_9) (cwX10_109 X (by decide)) rfl hl.1 (Nat.le_of_ble_eq_true rfl) rfl dX10_takeFigures_24 ⟨Nat.zero_le _, Nat.zero_le _⟩) (fun H locs Y => ?_)
    refine lv_if_eq (tgt := 79) hx hb dX10_takeFigures_27 (by decide) (fun c_4 => ?_) (fun c_4 => ?_)
    · have hf := ite_t hf c_4
      exact bT_takeFigures_79 X hf Y (lv_sub hl [0] rfl)
    · have hf := ite_f hf c_4
      refine lv_aload_n hx hb dX10_takeFigures_30 rfl (lv_at hl 0 rfl) ?_
      refine gfX10_27 X Y (v := .int tat) 0 rfl rfl dX10_takeFigures_31 ?_
      refine lv_aload_n hx hb dX10_takeFigures_34 rfl (lv_at hl 0 rfl) ?_
      refine gfX10_81 X Y (v := .int tsr) 0 rfl rfl dX10_takeFigures_35 ?_
      refine lv_isub hx hb dX10_takeFigures_38 ?_
      refine lv_iconst (v := (3 : Int32)) hx hb dX10_takeFigures_39 (by decide) ?_
      refine lv_icmp_ge (tgt := 66) hx hb dX10_takeFigures_40 (by decide) (fun c_5 => ?_) (fun c_5 => ?_)
      · have hf := ite_t hf c_5
        exact bT_takeFigures_66 X h5 hf Y (lv_sub hl [0] rfl)
      · have hf := ite_f hf c_5
        refine lv_aload_n hx hb dX10_takeFigures_43 rfl (lv_at hl 0 rfl) ?_
        refine lv_aload_n hx hb dX10_takeFigures_44 rfl (lv_at hl 0 rfl) ?_
        refine gfX10_84 X Y (v := .int tnm) 0 rfl rfl dX10_takeFigures_45 ?_
        refine lv_bipush (v := (10 : Int32)) hx hb dX10_takeFigures_48 (by decide) ?_
        refine lv_imul hx hb dX10_takeFigures_50 ?_
        refine lv_aload_n hx hb dX10_takeFigures_51 rfl (lv_at hl 0 rfl) ?_
        refine lv_aload_n hx hb dX10_takeFigures_52 rfl (lv_at hl 0 rfl) ?_
        refine gfX10_27 X Y (v := .int tat) 0 rfl rfl dX10_takeFigures_53 ?_
        obtain ⟨r_6, ho_8, hf⟩ := bd1_some hf
        refine t_i Y (bkS Y) (r_V (As := [.int tat]) (rest := [.int (tnm * (10 : Int32)), .ref (At 0)]) X (c_preS X Y) (cT_byteAt ho_8) (cwX10_98 X (by decide)) (va_recv X.K Y.1 (q := (RX10, TX10, 9)) (q0 := 0) (ci := 10) rfl rfl) rfl hl.1 (Nat.le_of_ble_eq_true rfl) rfl dX10_takeFigures_56 ⟨Nat.zero_le _, Nat.zero_le _⟩) (fun H locs Y => ?_)
        refine lv_iadd hx hb dX10_takeFigures_59 ?_
        refine lv_bipush (v := (48 : Int32)) hx hb dX10_takeFigures_60 (by decide) ?_
        refine lv_isub hx hb dX10_takeFigures_62 ?_
        refine lv_topi (fun tnm_7 e_tnm_7 => ?_)
        have hf := bnd_eq hf e_tnm_7
        refine pfX10_84 X Y 0 rfl rfl rfl (Nat.le_of_ble_eq_true rfl) (ws' := (WT Γ At tby tnu tln tat tsr ttk tnm_7 tit tft)) rfl dX10_takeFigures_63 (fun H locs Y => ?_)
        exact bT_takeFigures_66 X h5 hf Y (lv_sub hl [0] rfl)
def T_takeFigures_L5 : Nat → (Nat → Int32) → Int32 → Int32 → Int32 → Int32 → Int32 → Option (Int32 × Int32 × Int32)
  | 0, _, _, _, _, _, _ => none
  | n + 1, tby, tln, tat, tsr, ttk, tnm => T_takeFigures_5 (T_takeFigures_L5 n) tby tln tat tsr ttk tnm
theorem lT_takeFigures_5 {At : Nat → Nat} {tnu : Nat → Int32} {tit : Int32} {tft : Int32} {tat_z : Int32} {ttk_z : Int32} {tnm_z : Int32} (X : Cx Γ p s m args meth c RX10 cX10_takeFigures 1 none w0) : ∀ (n : Nat) (tby : Nat → Int32) (tln : Int32) (tat : Int32) (tsr : Int32) (ttk : Int32) (tnm : Int32), T_takeFigures_L5 n tby tln tat tsr ttk tnm = some (tat_z, ttk_z, tnm_z) → ∀ (H : Heap) (locs : List Loc) (ls : Array Slot), Wd Γ w0 s (WT Γ At tby tnu tln tat tsr ttk tnm tit tft) H locs → lv_has ls 1 [(0, .ref (At 0))] → W p l e rmT_takeFigures s m args below meth c H locs 0 0 (EV Γ below args s w0 (WT Γ At tby tnu tln tat_z tsr ttk_z tnm_z tit tft)) (F0 m 5 ls []) := by
  intro n
  induction n with
  | zero => intro tby tln tat tsr ttk tnm hf; cases hf
  | succ n ih => intro tby tln tat tsr ttk tnm hf H locs ls Y hl; exact bT_takeFigures_5 X ih hf Y hl
def T_takeFigures (tby : Nat → Int32) (tln : Int32) (tat : Int32) (tsr : Int32) (ttk : Int32) (tnm : Int32) : Option (Int32 × Int32 × Int32) := T_takeFigures_L5 FU tby tln tat tsr ttk (0 : Int32)
set_option maxHeartbeats 4000000 in
set_option maxRecDepth 100000 in
theorem bT_takeFigures_e {At : Nat → Nat} {tby : Nat → Int32} {tnu : Nat → Int32} {tln : Int32} {tat : Int32} {tsr : Int32} {ttk : Int32} {tnm : Int32} {tit : Int32} {tft : Int32} {tat_z : Int32} {ttk_z : Int32} {tnm_z : Int32} (X : Cx Γ p s m args meth c RX10 cX10_takeFigures 1 none w0) (hf : T_takeFigures tby tln tat tsr ttk tnm = some (tat_z, ttk_z, tnm_z)) (Y : Wd Γ w0 s (WT Γ At tby tnu tln tat tsr ttk tnm tit tft) H locs) (hl : lv_has ls 1 [(0, .ref (At 0))]) : W p l e rmT_takeFigures s m args below meth c H locs 0 0 (EV Γ below args s w0 (WT Γ At tby tnu tln tat_z tsr ttk_z tnm_z tit tft)) (F0 m 0 ls []) := by
  have hx := X.1
  have hb := X.2.1
  refine lv_aload_n hx hb dX10_takeFigures_0 rfl (lv_at hl 0 rfl) ?_
  refine lv_iconst (v := (0 : Int32)) hx hb dX10_takeFigures_1 (by decide) ?_
  refine pfX10_84 X Y 0 rfl rfl rfl (Nat.le_of_ble_eq_true rfl) (ws' := (WT Γ At tby tnu tln tat tsr ttk (0 : Int32) tit tft)) rfl dX10_takeFigures_2 (fun H locs Y => ?_)
  exact lT_takeFigures_5 X _ _ _ _ _ _ _ hf _ _ _ Y (lv_sub hl [0] rfl)
theorem cT_takeFigures {l : Launch} {Γ : Gm} {At : Nat → Nat} {tby : Nat → Int32} {tnu : Nat → Int32} {tln : Int32} {tat : Int32} {tsr : Int32} {ttk : Int32} {tnm : Int32} {tit : Int32} {tft : Int32} {tat_z : Int32} {ttk_z : Int32} {tnm_z : Int32} (h : T_takeFigures tby tln tat tsr ttk tnm = some (tat_z, ttk_z, tnm_z)) : CV l Γ yX10_takeFigures (Cond.code yX10_takeFigures cX10_takeFigures 1 none :: GW) rmT_takeFigures [.ref (At 0)] (WT Γ At tby tnu tln tat tsr ttk tnm tit tft) (WT Γ At tby tnu tln tat_z tsr ttk_z tnm_z tit tft) := ofBody (Qc := QcV Γ _ _) (by decide) (Nat.le_of_ble_eq_true rfl) (fun p e s m below meth c ls _ X Y hl => bT_takeFigures_e X h Y hl)
theorem pfX10_81 (X : Cx Γ p s m args meth c RX10 cc nL ret w0) (Y : Wd Γ w0 s ws H locs) (q0 : Nat) {fs : List Value} (he : ws[q0]? = some (a, .inr (10, fs))) {v : Value} (hn : narrow (tyX10 4) v = v) (hfit : fits (tyX10 4) v = true) (hl : 4 < fs.length) (hw : ws.set q0 (a, .inr (10, fs.set 4 v)) = ws') (hdg : decode cc pc = .ok (.putfield 81, 3)) (kk : ∀ (H1 : Heap) (locs1 : List Loc), Wd Γ w0 s ws' H1 locs1 → W p l e R s m args below meth c H1 locs1 cells slots Q (F0 m (pc + 3) ls rest)) : W p l e R s m args below meth c H locs cells slots Q (F0 m pc ls (v :: .ref a :: rest)) := x_put X Y iX10 tyX10 tyX10_ok nmX10 rfl 4 (by decide) rfl kw406 rfl q0 he hn hfit hl hw hdg kk
theorem dmX10_takeFiguresV : yX10_takeFigures.cls = RX10 ∧ yX10_takeFigures.cls ≠ "java/lang/invoke/MethodHandle" ∧ yX10_takeFigures.cls ≠ "java/lang/invoke/VarHandle" ∧ (parseMethodDescriptor yX10_takeFigures.desc).map (fun d => d.parameters.length) = some 0 := by decide +kernel
theorem cwX10_112 (X : Cx Γ p s m args meth c RX10 cc nL ret w0) (hR : rmT_takeFigures.frames + 1 ≤ R.frames ∧ 8 + (1 + 11) + rmT_takeFigures.locals ≤ R.locals) : CallW R s args RX10 RX10 112 yX10_takeFigures cX10_takeFigures 1 none (Cond.code yX10_takeFigures cX10_takeFigures 1 none :: GW) rmT_takeFigures 0 0 0 := cw_V X kw433 kw434 kw435 kw415 kw436 dmX10_takeFiguresV rfl rfl hR
theorem dmX10_takeWordV : yX10_takeWord.cls = RX10 ∧ yX10_takeWord.cls ≠ "java/lang/invoke/MethodHandle" ∧ yX10_takeWord.cls ≠ "java/lang/invoke/VarHandle" ∧ (parseMethodDescriptor yX10_takeWord.desc).map (fun d => d.parameters.length) = some 0 := by decide +kernel
theorem cwX10_106 (X : Cx Γ p s m args meth c RX10 cc nL ret w0) (hR : rmT_takeWord.frames + 1 ≤ R.frames ∧ 8 + (1 + 11) + rmT_takeWord.locals ≤ R.locals) : CallW R s args RX10 RX10 106 yX10_takeWord cX10_takeWord 1 none (Cond.code yX10_takeWord cX10_takeWord 1 none :: GW) rmT_takeWord 0 0 0 := cw_V X kw437 kw438 kw439 kw415 kw440 dmX10_takeWordV rfl rfl hR
def rmT_step : Room := { frames := 6, cells := 0, slots := 0, locals := 127 }
def T_step_126 (y0 : Int32) (tby : Nat → Int32) (tln : Int32) (tat : Int32) (tsr : Int32) (ttk : Int32) (tnm : Int32) : Option (Int32 × Int32 × Int32 × Int32) := bnd (tat + (1 : Int32)) (fun (tat_1 : Int32) => some (tat_1, tsr, y0, tnm))
set_option maxHeartbeats 4000000 in
set_option maxRecDepth 100000 in
theorem bT_step_126 {At : Nat → Nat} {tby : Nat → Int32} {tnu : Nat → Int32} {tln : Int32} {tat : Int32} {tsr : Int32} {ttk : Int32} {tnm : Int32} {tit : Int32} {tft : Int32} {tat_z : Int32} {tsr_z : Int32} {ttk_z : Int32} {tnm_z : Int32} {y0 : Int32} (X : Cx Γ p s m args meth c RX10 cX10_step 1 none w0) (hf : T_step_126 y0 tby tln tat tsr ttk tnm = some (tat_z, tsr_z, ttk_z, tnm_z)) (Y : Wd Γ w0 s (WT Γ At tby tnu tln tat tsr ttk tnm tit tft) H locs) (hl : lv_has ls 1 [(0, .ref (At 0))]) : W p l e rmT_step s m args below meth c H locs 0 0 (EV Γ below args s w0 (WT Γ At tby tnu tln tat_z tsr_z ttk_z tnm_z tit tft)) (F0 m 126 ls [.int y0, .ref (At 0)]) := by
  have hx := X.1
  have hb := X.2.1
  refine pfX10_39 X Y 0 rfl rfl rfl (Nat.le_of_ble_eq_true rfl) (ws' := (WT Γ At tby tnu tln tat tsr y0 tnm tit tft)) rfl dX10_step_126 (fun H locs Y => ?_)
  refine lv_aload_n hx hb dX10_step_129 rfl (lv_at hl 0 rfl) ?_
  refine lv_dup hx hb dX10_step_130 rfl ?_
  refine gfX10_27 X Y (v := .int tat) 0 rfl rfl dX10_step_131 ?_
  refine lv_iconst (v := (1 : Int32)) hx hb dX10_step_134 (by decide) ?_
  refine lv_iadd hx hb dX10_step_135 ?_
  refine lv_topi (fun tat_1 e_tat_1 => ?_)
  have hf := bnd_eq hf e_tat_1
  refine pfX10_27 X Y 0 rfl rfl rfl (Nat.le_of_ble_eq_true rfl) (ws' := (WT Γ At tby tnu tln tat_1 tsr y0 tnm tit tft)) rfl dX10_step_136 (fun H locs Y => ?_)
  obtain ⟨e90, e91, e92, e93⟩ := sj4 hf
  subst e90
  subst e91
  subst e92
  subst e93
  exact x_vret X Y dX10_step_139
def T_step_37 (tby : Nat → Int32) (tln : Int32) (tat : Int32) (tsr : Int32) (ttk : Int32) (tnm : Int32) : Option (Int32 × Int32 × Int32 × Int32) := if tat < tln then (bd1 (T_byteAt tat tby) (fun (r_2 : Int32) => bd1 (T_isLetter r_2) (fun (r_3 : Int32) => if r_3 = 0 then (bd1 (T_byteAt tat tby) (fun (r_5 : Int32) => bd1 (T_isFigure r_5) (fun (r_6 : Int32) => if r_6 = 0 then (bd1 (T_byteAt tat tby) (fun (r_8 : Int32) => if r_8 = (59 : Int32) then (T_step_126 (5 : Int32) tby tln tat tat ttk tnm) else (T_step_126 (6 : Int32) tby tln tat tat ttk tnm))) else (bd3 (T_takeFigures tby tln tat tat ttk tnm) (fun (tat_11 : Int32) (ttk_12 : Int32) (tnm_13 : Int32) => some (tat_11, tat, ttk_12, tnm_13)))))) else (bd2 (T_takeWord tby tln tat tat ttk) (fun (tat_17 : Int32) (ttk_18 : Int32) => some (tat_17, tat, ttk_18, tnm)))))) else (some (tat, tat, (0 : Int32), tnm))
set_option maxHeartbeats 4000000 in
set_option maxRecDepth 100000 in
theorem bT_step_37 {At : Nat → Nat} {tby : Nat → Int32} {tnu : Nat → Int32} {tln : Int32} {tat : Int32} {tsr : Int32} {ttk : Int32} {tnm : Int32} {tit : Int32} {tft : Int32} {tat_z : Int32} {tsr_z : Int32} {ttk_z : Int32} {tnm_z : Int32} (X : Cx Γ p s m args meth c RX10 cX10_step 1 none w0) (hf : T_step_37 tby tln tat tsr ttk tnm = some (tat_z, tsr_z, ttk_z, tnm_z)) (Y : Wd Γ w0 s (WT Γ At tby tnu tln tat tsr ttk tnm tit tft) H locs) (hl : lv_has ls 1 [(0, .ref (At 0))]) : W p l e rmT_step s m args below meth c H locs 0 0 (EV Γ below args s w0 (WT Γ At tby tnu tln tat_z tsr_z ttk_z tnm_z tit tft)) (F0 m 37 ls []) := by
  have hx := X.1
  have hb := X.2.1
  refine lv_aload_n hx hb dX10_step_37 rfl (lv_at hl 0 rfl) ?_
  refine lv_aload_n hx hb dX10_step_38 rfl (lv_at hl 0 rfl) ?_
  refine gfX10_27 X Y (v := .int tat) 0 rfl rfl dX10_step_39 ?_
  refine pfX10_81 X Y 0 rfl rfl rfl (Nat.le_of_ble_eq_true rfl) (ws' := (WT Γ At tby tnu tln tat tat ttk tnm tit tft)) rfl dX10_step_42 (fun H locs Y => ?_)
  refine lv_aload_n hx hb dX10_step_45 rfl (lv_at hl 0 rfl) ?_
  refine gfX10_27 X Y (v := .int tat) 0 rfl rfl dX10_step_46 ?_
  refine lv_aload_n hx hb dX10_step_49 rfl (lv_at hl 0 rfl) ?_
  refine gfX10_19 X Y (v := .int tln) 0 rfl rfl dX10_step_50 ?_
  refine lv_icmp_lt (tgt := 64) hx hb dX10_step_53 (by decide) (fun c_1 => ?_) (fun c_1 => ?_)
  · have hf := ite_t hf c_1
    refine lv_aload_n hx hb dX10_step_64 rfl (lv_at hl 0 rfl) ?_
    refine lv_aload_n hx hb dX10_step_65 rfl (lv_at hl 0 rfl) ?_
    refine gfX10_27 X Y (v := .int tat) 0 rfl rfl dX10_step_66 ?_
    obtain ⟨r_2, ho_21, hf⟩ := bd1_some hf
    refine t_i Y (bkS Y) (r_V (As := [.int tat]) (rest := []) X (c_preS X Y) (cT_byteAt ho_21) (cwX10_98 X (by decide)) (va_recv X.K Y.1 (q := (RX10, TX10, 9)) (q0 := 0) (ci := 10) rfl rfl) rfl hl.1 (Nat.le_of_ble_eq_true rfl) rfl dX10_step_69 ⟨Nat.zero_le _, Nat.zero_le _⟩) (fun H locs Y => ?_)
    obtain ⟨r_3, ho_20, hf⟩ := bd1_some hf
    refine t_i Y (bk0 Y) (r_S (As := [.int r_2]) (rest := []) X (c_pre0 X Y) (cT_isLetter ho_20) (cwX10_102 X (by decide)) rfl hl.1 (Nat.le_of_ble_eq_true rfl) rfl dX10_step_72 ⟨Nat.zero_le _, Nat.zero_le _⟩) (fun H locs Y => ?_)
    refine lv_if_eq (tgt := 85) hx hb dX10_step_75 (by decide) (fun c_4 => ?_) (fun c_4 => ?_)
    · have hf := ite_t hf c_4
      refine lv_aload_n hx hb dX10_step_85 rfl (lv_at hl 0 rfl) ?_
      refine lv_aload_n hx hb dX10_step_86 rfl (lv_at hl 0 rfl) ?_
      refine gfX10_27 X Y (v := .int tat) 0 rfl rfl dX10_step_87 ?_
      obtain ⟨r_5, ho_16, hf⟩ := bd1_some hf
      refine t_i Y (bkS Y) (r_V (As := [.int tat]) (rest := []) X (c_preS X Y) (cT_byteAt ho_16) (cwX10_98 X (by decide)) (va_recv X.K Y.1 (q := (RX10, TX10, 9)) (q0 := 0) (ci := 10) rfl rfl) rfl hl.1 (Nat.le_of_ble_eq_true rfl) rfl dX10_step_90 ⟨Nat.zero_le _, Nat.zero_le _⟩) (fun H locs Y => ?_)
      obtain ⟨r_6, ho_15, hf⟩ := bd1_some hf
      refine t_i Y (bk0 Y) (r_S (As := [.int r_5]) (rest := []) X (c_pre0 X Y) (cT_isFigure ho_15) (cwX10_109 X (by decide)) rfl hl.1 (Nat.le_of_ble_eq_true rfl) rfl dX10_step_93 ⟨Nat.zero_le _, Nat.zero_le _⟩) (fun H locs Y => ?_)
      refine lv_if_eq (tgt := 106) hx hb dX10_step_96 (by decide) (fun c_7 => ?_) (fun c_7 => ?_)
      · have hf := ite_t hf c_7
        refine lv_aload_n hx hb dX10_step_106 rfl (lv_at hl 0 rfl) ?_
        refine lv_aload_n hx hb dX10_step_107 rfl (lv_at hl 0 rfl) ?_
        refine lv_aload_n hx hb dX10_step_108 rfl (lv_at hl 0 rfl) ?_
        refine gfX10_27 X Y (v := .int tat) 0 rfl rfl dX10_step_109 ?_
        obtain ⟨r_8, ho_10, hf⟩ := bd1_some hf
        refine t_i Y (bkS Y) (r_V (As := [.int tat]) (rest := [.ref (At 0)]) X (c_preS X Y) (cT_byteAt ho_10) (cwX10_98 X (by decide)) (va_recv X.K Y.1 (q := (RX10, TX10, 9)) (q0 := 0) (ci := 10) rfl rfl) rfl hl.1 (Nat.le_of_ble_eq_true rfl) rfl dX10_step_112 ⟨Nat.zero_le _, Nat.zero_le _⟩) (fun H locs Y => ?_)
        refine lv_bipush (v := (59 : Int32)) hx hb dX10_step_115 (by decide) ?_
        refine lv_icmp_ne (tgt := 124) hx hb dX10_step_117 (by decide) (fun c_9 => ?_) (fun c_9 => ?_)
        · have hf := ite_f hf c_9
          refine lv_bipush (v := (6 : Int32)) hx hb dX10_step_124 (by decide) ?_
          exact bT_step_126 X hf Y (lv_sub hl [0] rfl)
        · have hf := ite_t hf c_9
          refine lv_iconst (v := (5 : Int32)) hx hb dX10_step_120 (by decide) ?_
          refine lv_goto (tgt := 126) hx hb dX10_step_121 (by decide) ?_
          exact bT_step_126 X hf Y (lv_sub hl [0] rfl)
      · have hf := ite_f hf c_7
        refine lv_aload_n hx hb dX10_step_99 rfl (lv_at hl 0 rfl) ?_
        obtain ⟨tat_11, ttk_12, tnm_13, ho_14, hf⟩ := bd3_some hf
        refine t_v Y (bkS Y) (r_V (As := []) (rest := []) X (c_preS X Y) (cT_takeFigures ho_14) (cwX10_112 X (by decide)) (va_recv X.K Y.1 (q := (RX10, TX10, 9)) (q0 := 0) (ci := 10) rfl rfl) rfl hl.1 (Nat.le_of_ble_eq_true rfl) rfl dX10_step_100 ⟨Nat.zero_le _, Nat.zero_le _⟩) (fun H locs Y => ?_)
        refine lv_goto (tgt := 139) hx hb dX10_step_103 (by decide) ?_
        obtain ⟨e90, e91, e92, e93⟩ := sj4 hf
        subst e90
        subst e91
        subst e92
        subst e93
        exact x_vret X Y dX10_step_139
    · have hf := ite_f hf c_4
      refine lv_aload_n hx hb dX10_step_78 rfl (lv_at hl 0 rfl) ?_
      obtain ⟨tat_17, ttk_18, ho_19, hf⟩ := bd2_some hf
      refine t_v Y (bkS Y) (r_V (As := []) (rest := []) X (c_preS X Y) (cT_takeWord ho_19) (cwX10_106 X (by decide)) (va_recv X.K Y.1 (q := (RX10, TX10, 9)) (q0 := 0) (ci := 10) rfl rfl) rfl hl.1 (Nat.le_of_ble_eq_true rfl) rfl dX10_step_79 ⟨Nat.zero_le _, Nat.zero_le _⟩) (fun H locs Y => ?_)
      refine lv_goto (tgt := 139) hx hb dX10_step_82 (by decide) ?_
      obtain ⟨e90, e91, e92, e93⟩ := sj4 hf
      subst e90
      subst e91
      subst e92
      subst e93
      exact x_vret X Y dX10_step_139
  · have hf := ite_f hf c_1
    refine lv_aload_n hx hb dX10_step_56 rfl (lv_at hl 0 rfl) ?_
    refine lv_iconst (v := (0 : Int32)) hx hb dX10_step_57 (by decide) ?_
    refine pfX10_39 X Y 0 rfl rfl rfl (Nat.le_of_ble_eq_true rfl) (ws' := (WT Γ At tby tnu tln tat tat (0 : Int32) tnm tit tft)) rfl dX10_step_58 (fun H locs Y => ?_)
    refine lv_goto (tgt := 139) hx hb dX10_step_61 (by decide) ?_
    obtain ⟨e90, e91, e92, e93⟩ := sj4 hf
    subst e90
    subst e91
    subst e92
    subst e93
    exact x_vret X Y dX10_step_139
def T_step_0 (rc0 : (Nat → Int32) → Int32 → Int32 → Int32 → Int32 → Int32 → Option (Int32 × Int32 × Int32 × Int32)) (tby : Nat → Int32) (tln : Int32) (tat : Int32) (tsr : Int32) (ttk : Int32) (tnm : Int32) : Option (Int32 × Int32 × Int32 × Int32) := if tln ≤ tat then (T_step_37 tby tln tat tsr ttk tnm) else (bd1 (T_byteAt tat tby) (fun (r_2 : Int32) => if r_2 = (32 : Int32) then (bnd (tat + (1 : Int32)) (fun (tat_4 : Int32) => rc0 tby tln tat_4 tsr ttk tnm)) else (T_step_37 tby tln tat tsr ttk tnm)))
set_option maxHeartbeats 4000000 in
set_option maxRecDepth 100000 in
theorem bT_step_0 {At : Nat → Nat} {tby : Nat → Int32} {tnu : Nat → Int32} {tln : Int32} {tat : Int32} {tsr : Int32} {ttk : Int32} {tnm : Int32} {tit : Int32} {tft : Int32} {tat_z : Int32} {tsr_z : Int32} {ttk_z : Int32} {tnm_z : Int32} {rc0 : (Nat → Int32) → Int32 → Int32 → Int32 → Int32 → Int32 → Option (Int32 × Int32 × Int32 × Int32)} (X : Cx Γ p s m args meth c RX10 cX10_step 1 none w0) (h0 : ∀ (tby : Nat → Int32) (tln : Int32) (tat : Int32) (tsr : Int32) (ttk : Int32) (tnm : Int32), rc0 tby tln tat tsr ttk tnm = some (tat_z, tsr_z, ttk_z, tnm_z) → ∀ (H : Heap) (locs : List Loc) (ls : Array Slot), Wd Γ w0 s (WT Γ At tby tnu tln tat tsr ttk tnm tit tft) H locs → lv_has ls 1 [(0, .ref (At 0))] → W p l e rmT_step s m args below meth c H locs 0 0 (EV Γ below args s w0 (WT Γ At tby tnu tln tat_z tsr_z ttk_z tnm_z tit tft)) (F0 m 0 ls [])) (hf : T_step_0 rc0 tby tln tat tsr ttk tnm = some (tat_z, tsr_z, ttk_z, tnm_z)) (Y : Wd Γ w0 s (WT Γ At tby tnu tln tat tsr ttk tnm tit tft) H locs) (hl : lv_has ls 1 [(0, .ref (At 0))]) : W p l e rmT_step s m args below meth c H locs 0 0 (EV Γ below args s w0 (WT Γ At tby tnu tln tat_z tsr_z ttk_z tnm_z tit tft)) (F0 m 0 ls []) := by
  have hx := X.1
  have hb := X.2.1
  refine lv_aload_n hx hb dX10_step_0 rfl (lv_at hl 0 rfl) ?_
  refine gfX10_27 X Y (v := .int tat) 0 rfl rfl dX10_step_1 ?_
  refine lv_aload_n hx hb dX10_step_4 rfl (lv_at hl 0 rfl) ?_
  refine gfX10_19 X Y (v := .int tln) 0 rfl rfl dX10_step_5 ?_
  refine lv_icmp_ge (tgt := 37) hx hb dX10_step_8 (by decide) (fun c_1 => ?_) (fun c_1 => ?_)
  · have hf := ite_t hf c_1
    exact bT_step_37 X hf Y (lv_sub hl [0] rfl)
  · have hf := ite_f hf c_1
    refine lv_aload_n hx hb dX10_step_11 rfl (lv_at hl 0 rfl) ?_
    refine lv_aload_n hx hb dX10_step_12 rfl (lv_at hl 0 rfl) ?_
    refine gfX10_27 X Y (v := .int tat) 0 rfl rfl dX10_step_13 ?_
    obtain ⟨r_2, ho_5, hf⟩ := bd1_some hf
    refine t_i Y (bkS Y) (r_V (As := [.int tat]) (rest := []) X (c_preS X Y) (cT_byteAt ho_5) (cwX10_98 X (by decide)) (va_recv X.K Y.1 (q := (RX10, TX10, 9)) (q0 := 0) (ci := 10) rfl rfl) rfl hl.1 (Nat.le_of_ble_eq_true rfl) rfl dX10_step_16 ⟨Nat.zero_le _, Nat.zero_le _⟩) (fun H locs Y => ?_)
    refine lv_bipush (v := (32 : Int32)) hx hb dX10_step_19 (by decide) ?_
    refine lv_icmp_ne (tgt := 37) hx hb dX10_step_21 (by decide) (fun c_3 => ?_) (fun c_3 => ?_)
    · have hf := ite_f hf c_3
      exact bT_step_37 X hf Y (lv_sub hl [0] rfl)
    · have hf := ite_t hf c_3
      refine lv_aload_n hx hb dX10_step_24 rfl (lv_at hl 0 rfl) ?_
      refine lv_dup hx hb dX10_step_25 rfl ?_
      refine gfX10_27 X Y (v := .int tat) 0 rfl rfl dX10_step_26 ?_
      refine lv_iconst (v := (1 : Int32)) hx hb dX10_step_29 (by decide) ?_
      refine lv_iadd hx hb dX10_step_30 ?_
      refine lv_topi (fun tat_4 e_tat_4 => ?_)
      have hf := bnd_eq hf e_tat_4
      refine pfX10_27 X Y 0 rfl rfl rfl (Nat.le_of_ble_eq_true rfl) (ws' := (WT Γ At tby tnu tln tat_4 tsr ttk tnm tit tft)) rfl dX10_step_31 (fun H locs Y => ?_)
      refine lv_goto (tgt := 0) hx hb dX10_step_34 (by decide) ?_
      exact h0 _ _ _ _ _ _ hf _ _ _ Y (lv_sub hl [0] rfl)
def T_step_L0 : Nat → (Nat → Int32) → Int32 → Int32 → Int32 → Int32 → Int32 → Option (Int32 × Int32 × Int32 × Int32)
  | 0, _, _, _, _, _, _ => none
  | n + 1, tby, tln, tat, tsr, ttk, tnm => T_step_0 (T_step_L0 n) tby tln tat tsr ttk tnm
theorem lT_step_0 {At : Nat → Nat} {tnu : Nat → Int32} {tit : Int32} {tft : Int32} {tat_z : Int32} {tsr_z : Int32} {ttk_z : Int32} {tnm_z : Int32} (X : Cx Γ p s m args meth c RX10 cX10_step 1 none w0) : ∀ (n : Nat) (tby : Nat → Int32) (tln : Int32) (tat : Int32) (tsr : Int32) (ttk : Int32) (tnm : Int32), T_step_L0 n tby tln tat tsr ttk tnm = some (tat_z, tsr_z, ttk_z, tnm_z) → ∀ (H : Heap) (locs : List Loc) (ls : Array Slot), Wd Γ w0 s (WT Γ At tby tnu tln tat tsr ttk tnm tit tft) H locs → lv_has ls 1 [(0, .ref (At 0))] → W p l e rmT_step s m args below meth c H locs 0 0 (EV Γ below args s w0 (WT Γ At tby tnu tln tat_z tsr_z ttk_z tnm_z tit tft)) (F0 m 0 ls []) := by
  intro n
  induction n with
  | zero => intro tby tln tat tsr ttk tnm hf; cases hf
  | succ n ih => intro tby tln tat tsr ttk tnm hf H locs ls Y hl; exact bT_step_0 X ih hf Y hl
def T_step (tby : Nat → Int32) (tln : Int32) (tat : Int32) (tsr : Int32) (ttk : Int32) (tnm : Int32) : Option (Int32 × Int32 × Int32 × Int32) := T_step_L0 FU tby tln tat tsr ttk tnm
set_option maxHeartbeats 4000000 in
set_option maxRecDepth 100000 in
theorem bT_step_e {At : Nat → Nat} {tby : Nat → Int32} {tnu : Nat → Int32} {tln : Int32} {tat : Int32} {tsr : Int32} {ttk : Int32} {tnm : Int32} {tit : Int32} {tft : Int32} {tat_z : Int32} {tsr_z : Int32} {ttk_z : Int32} {tnm_z : Int32} (X : Cx Γ p s m args meth c RX10 cX10_step 1 none w0) (hf : T_step tby tln tat tsr ttk tnm = some (tat_z, tsr_z, ttk_z, tnm_z)) (Y : Wd Γ w0 s (WT Γ At tby tnu tln tat tsr ttk tnm tit tft) H locs) (hl : lv_has ls 1 [(0, .ref (At 0))]) : W p l e rmT_step s m args below meth c H locs 0 0 (EV Γ below args s w0 (WT Γ At tby tnu tln tat_z tsr_z ttk_z tnm_z tit tft)) (F0 m 0 ls []) := by
  have hx := X.1
  have hb := X.2.1
  exact lT_step_0 X _ _ _ _ _ _ _ hf _ _ _ Y (lv_sub hl [0] rfl)
theorem cT_step {l : Launch} {Γ : Gm} {At : Nat → Nat} {tby : Nat → Int32} {tnu : Nat → Int32} {tln : Int32} {tat : Int32} {tsr : Int32} {ttk : Int32} {tnm : Int32} {tit : Int32} {tft : Int32} {tat_z : Int32} {tsr_z : Int32} {ttk_z : Int32} {tnm_z : Int32} (h : T_step tby tln tat tsr ttk tnm = some (tat_z, tsr_z, ttk_z, tnm_z)) : CV l Γ yX10_step (Cond.code yX10_step cX10_step 1 none :: GW) rmT_step [.ref (At 0)] (WT Γ At tby tnu tln tat tsr ttk tnm tit tft) (WT Γ At tby tnu tln tat_z tsr_z ttk_z tnm_z tit tft) := ofBody (Qc := QcV Γ _ _) (by decide) (Nat.le_of_ble_eq_true rfl) (fun p e s m below meth c ls _ X Y hl => bT_step_e X h Y hl)
theorem gfX10_33 (X : Cx Γ p s m args meth c RX10 cc nL ret w0) (Y : Wd Γ w0 s ws H locs) {v : Value} (q0 : Nat) {fs : List Value} (he : ws[q0]? = some (a, .inr (10, fs))) (hv : fs[8]? = some v) (hdg : decode cc pc = .ok (.getfield 33, 3)) (kk : W p l e R s m args below meth c H locs cells slots Q (F0 m (pc + 3) ls (v :: rest))) : W p l e R s m args below meth c H locs cells slots Q (F0 m pc ls (.ref a :: rest)) := x_get X Y iX10 rfl 8 (by decide) rfl kw441 q0 he hv hdg kk
theorem gfX10_39 (X : Cx Γ p s m args meth c RX10 cc nL ret w0) (Y : Wd Γ w0 s ws H locs) {v : Value} (q0 : Nat) {fs : List Value} (he : ws[q0]? = some (a, .inr (10, fs))) (hv : fs[5]? = some v) (hdg : decode cc pc = .ok (.getfield 39, 3)) (kk : W p l e R s m args below meth c H locs cells slots Q (F0 m (pc + 3) ls (v :: rest))) : W p l e R s m args below meth c H locs cells slots Q (F0 m pc ls (.ref a :: rest)) := x_get X Y iX10 rfl 5 (by decide) rfl kw428 q0 he hv hdg kk
theorem pfX10_33 (X : Cx Γ p s m args meth c RX10 cc nL ret w0) (Y : Wd Γ w0 s ws H locs) (q0 : Nat) {fs : List Value} (he : ws[q0]? = some (a, .inr (10, fs))) {v : Value} (hn : narrow (tyX10 8) v = v) (hfit : fits (tyX10 8) v = true) (hl : 8 < fs.length) (hw : ws.set q0 (a, .inr (10, fs.set 8 v)) = ws') (hdg : decode cc pc = .ok (.putfield 33, 3)) (kk : ∀ (H1 : Heap) (locs1 : List Loc), Wd Γ w0 s ws' H1 locs1 → W p l e R s m args below meth c H1 locs1 cells slots Q (F0 m (pc + 3) ls rest)) : W p l e R s m args below meth c H locs cells slots Q (F0 m pc ls (v :: .ref a :: rest)) := x_put X Y iX10 tyX10 tyX10_ok nmX10 rfl 8 (by decide) rfl kw441 rfl q0 he hn hfit hl hw hdg kk
theorem gfX10_30 (X : Cx Γ p s m args meth c RX10 cc nL ret w0) (Y : Wd Γ w0 s ws H locs) {v : Value} (q0 : Nat) {fs : List Value} (he : ws[q0]? = some (a, .inr (10, fs))) (hv : fs[7]? = some v) (hdg : decode cc pc = .ok (.getfield 30, 3)) (kk : W p l e R s m args below meth c H locs cells slots Q (F0 m (pc + 3) ls (v :: rest))) : W p l e R s m args below meth c H locs cells slots Q (F0 m pc ls (.ref a :: rest)) := x_get X Y iX10 rfl 7 (by decide) rfl kw442 q0 he hv hdg kk
theorem pfX10_30 (X : Cx Γ p s m args meth c RX10 cc nL ret w0) (Y : Wd Γ w0 s ws H locs) (q0 : Nat) {fs : List Value} (he : ws[q0]? = some (a, .inr (10, fs))) {v : Value} (hn : narrow (tyX10 7) v = v) (hfit : fits (tyX10 7) v = true) (hl : 7 < fs.length) (hw : ws.set q0 (a, .inr (10, fs.set 7 v)) = ws') (hdg : decode cc pc = .ok (.putfield 30, 3)) (kk : ∀ (H1 : Heap) (locs1 : List Loc), Wd Γ w0 s ws' H1 locs1 → W p l e R s m args below meth c H1 locs1 cells slots Q (F0 m (pc + 3) ls rest)) : W p l e R s m args below meth c H locs cells slots Q (F0 m pc ls (v :: .ref a :: rest)) := x_put X Y iX10 tyX10 tyX10_ok nmX10 rfl 7 (by decide) rfl kw442 rfl q0 he hn hfit hl hw hdg kk
theorem dmX10_stepV : yX10_step.cls = RX10 ∧ yX10_step.cls ≠ "java/lang/invoke/MethodHandle" ∧ yX10_step.cls ≠ "java/lang/invoke/VarHandle" ∧ (parseMethodDescriptor yX10_step.desc).map (fun d => d.parameters.length) = some 0 := by decide +kernel
theorem cwX10_36 (X : Cx Γ p s m args meth c RX10 cc nL ret w0) (hR : rmT_step.frames + 1 ≤ R.frames ∧ 8 + (1 + 11) + rmT_step.locals ≤ R.locals) : CallW R s args RX10 RX10 36 yX10_step cX10_step 1 none (Cond.code yX10_step cX10_step 1 none :: GW) rmT_step 0 0 0 := cw_V X kw443 kw444 kw445 kw415 kw446 dmX10_stepV rfl rfl hR
def rmT_takeStop : Room := { frames := 7, cells := 0, slots := 0, locals := 147 }
def T_takeStop (tby : Nat → Int32) (tln : Int32) (tat : Int32) (tsr : Int32) (ttk : Int32) (tnm : Int32) (tit : Int32) (tft : Int32) : Option (Int32 × Int32 × Int32 × Int32 × Int32 × Int32) := if tft = (-1 : Int32) then (if ttk = (5 : Int32) then (bnd (tit + (1 : Int32)) (fun (tit_3 : Int32) => bd4 (T_step tby tln tat tsr ttk tnm) (fun (tat_4 : Int32) (tsr_5 : Int32) (ttk_6 : Int32) (tnm_7 : Int32) => some (tat_4, tsr_5, ttk_6, tnm_7, tit_3, tft)))) else (some (tat, tsr, ttk, tnm, tit, tsr))) else (some (tat, tsr, ttk, tnm, tit, tft))
set_option maxHeartbeats 4000000 in
set_option maxRecDepth 100000 in
theorem bT_takeStop_e {At : Nat → Nat} {tby : Nat → Int32} {tnu : Nat → Int32} {tln : Int32} {tat : Int32} {tsr : Int32} {ttk : Int32} {tnm : Int32} {tit : Int32} {tft : Int32} {tat_z : Int32} {tsr_z : Int32} {ttk_z : Int32} {tnm_z : Int32} {tit_z : Int32} {tft_z : Int32} (X : Cx Γ p s m args meth c RX10 cX10_takeStop 1 none w0) (hf : T_takeStop tby tln tat tsr ttk tnm tit tft = some (tat_z, tsr_z, ttk_z, tnm_z, tit_z, tft_z)) (Y : Wd Γ w0 s (WT Γ At tby tnu tln tat tsr ttk tnm tit tft) H locs) (hl : lv_has ls 1 [(0, .ref (At 0))]) : W p l e rmT_takeStop s m args below meth c H locs 0 0 (EV Γ below args s w0 (WT Γ At tby tnu tln tat_z tsr_z ttk_z tnm_z tit_z tft_z)) (F0 m 0 ls []) := by
  have hx := X.1
  have hb := X.2.1
  refine lv_aload_n hx hb dX10_takeStop_0 rfl (lv_at hl 0 rfl) ?_
  refine gfX10_33 X Y (v := .int tft) 0 rfl rfl dX10_takeStop_1 ?_
  refine lv_iconst (v := (-1 : Int32)) hx hb dX10_takeStop_4 (by decide) ?_
  refine lv_icmp_eq (tgt := 9) hx hb dX10_takeStop_5 (by decide) (fun c_1 => ?_) (fun c_1 => ?_)
  · have hf := ite_t hf c_1
    refine lv_aload_n hx hb dX10_takeStop_9 rfl (lv_at hl 0 rfl) ?_
    refine gfX10_39 X Y (v := .int ttk) 0 rfl rfl dX10_takeStop_10 ?_
    refine lv_iconst (v := (5 : Int32)) hx hb dX10_takeStop_13 (by decide) ?_
    refine lv_icmp_ne (tgt := 34) hx hb dX10_takeStop_14 (by decide) (fun c_2 => ?_) (fun c_2 => ?_)
    · have hf := ite_f hf c_2
      refine lv_aload_n hx hb dX10_takeStop_34 rfl (lv_at hl 0 rfl) ?_
      refine lv_aload_n hx hb dX10_takeStop_35 rfl (lv_at hl 0 rfl) ?_
      refine gfX10_81 X Y (v := .int tsr) 0 rfl rfl dX10_takeStop_36 ?_
      refine pfX10_33 X Y 0 rfl rfl rfl (Nat.le_of_ble_eq_true rfl) (ws' := (WT Γ At tby tnu tln tat tsr ttk tnm tit tsr)) rfl dX10_takeStop_39 (fun H locs Y => ?_)
      obtain ⟨e90, e91, e92, e93, e94, e95⟩ := sj6 hf
      subst e90
      subst e91
      subst e92
      subst e93
      subst e94
      subst e95
      exact x_vret X Y dX10_takeStop_42
    · have hf := ite_t hf c_2
      refine lv_aload_n hx hb dX10_takeStop_17 rfl (lv_at hl 0 rfl) ?_
      refine lv_dup hx hb dX10_takeStop_18 rfl ?_
      refine gfX10_30 X Y (v := .int tit) 0 rfl rfl dX10_takeStop_19 ?_
      refine lv_iconst (v := (1 : Int32)) hx hb dX10_takeStop_22 (by decide) ?_
      refine lv_iadd hx hb dX10_takeStop_23 ?_
      refine lv_topi (fun tit_3 e_tit_3 => ?_)
      have hf := bnd_eq hf e_tit_3
      refine pfX10_30 X Y 0 rfl rfl rfl (Nat.le_of_ble_eq_true rfl) (ws' := (WT Γ At tby tnu tln tat tsr ttk tnm tit_3 tft)) rfl dX10_takeStop_24 (fun H locs Y => ?_)
      refine lv_aload_n hx hb dX10_takeStop_27 rfl (lv_at hl 0 rfl) ?_
      obtain ⟨tat_4, tsr_5, ttk_6, tnm_7, ho_8, hf⟩ := bd4_some hf
      refine t_v Y (bkS Y) (r_V (As := []) (rest := []) X (c_preS X Y) (cT_step ho_8) (cwX10_36 X (by decide)) (va_recv X.K Y.1 (q := (RX10, TX10, 9)) (q0 := 0) (ci := 10) rfl rfl) rfl hl.1 (Nat.le_of_ble_eq_true rfl) rfl dX10_takeStop_28 ⟨Nat.zero_le _, Nat.zero_le _⟩) (fun H locs Y => ?_)
      refine lv_goto (tgt := 42) hx hb dX10_takeStop_31 (by decide) ?_
      obtain ⟨e90, e91, e92, e93, e94, e95⟩ := sj6 hf
      subst e90
      subst e91
      subst e92
      subst e93
      subst e94
      subst e95
      exact x_vret X Y dX10_takeStop_42
  · have hf := ite_f hf c_1
    obtain ⟨e90, e91, e92, e93, e94, e95⟩ := sj6 hf
    subst e90
    subst e91
    subst e92
    subst e93
    subst e94
    subst e95
    exact x_vret X Y dX10_takeStop_8
theorem cT_takeStop {l : Launch} {Γ : Gm} {At : Nat → Nat} {tby : Nat → Int32} {tnu : Nat → Int32} {tln : Int32} {tat : Int32} {tsr : Int32} {ttk : Int32} {tnm : Int32} {tit : Int32} {tft : Int32} {tat_z : Int32} {tsr_z : Int32} {ttk_z : Int32} {tnm_z : Int32} {tit_z : Int32} {tft_z : Int32} (h : T_takeStop tby tln tat tsr ttk tnm tit tft = some (tat_z, tsr_z, ttk_z, tnm_z, tit_z, tft_z)) : CV l Γ yX10_takeStop (Cond.code yX10_takeStop cX10_takeStop 1 none :: GW) rmT_takeStop [.ref (At 0)] (WT Γ At tby tnu tln tat tsr ttk tnm tit tft) (WT Γ At tby tnu tln tat_z tsr_z ttk_z tnm_z tit_z tft_z) := ofBody (Qc := QcV Γ _ _) (by decide) (Nat.le_of_ble_eq_true rfl) (fun p e s m below meth c ls _ X Y hl => bT_takeStop_e X h Y hl)
theorem gfX10_15 (X : Cx Γ p s m args meth c RX10 cc nL ret w0) (Y : Wd Γ w0 s ws H locs) {v : Value} (q0 : Nat) {fs : List Value} (he : ws[q0]? = some (a, .inr (10, fs))) (hv : fs[1]? = some v) (hdg : decode cc pc = .ok (.getfield 15, 3)) (kk : W p l e R s m args below meth c H locs cells slots Q (F0 m (pc + 3) ls (v :: rest))) : W p l e R s m args below meth c H locs cells slots Q (F0 m pc ls (.ref a :: rest)) := x_get X Y iX10 rfl 1 (by decide) rfl kw447 q0 he hv hdg kk
def rmT_takeNumbers2 : Room := { frames := 7, cells := 0, slots := 0, locals := 147 }
def T_takeNumbers2_51 (tby : Nat → Int32) (tnu : Nat → Int32) (tln : Int32) (tat : Int32) (tsr : Int32) (ttk : Int32) (tnm : Int32) (tft : Int32) : Option (Int32 × (Nat → Int32) × Int32 × Int32 × Int32 × Int32 × Int32) := some ((0 : Int32), tnu, tat, tsr, ttk, tnm, tsr)
set_option maxHeartbeats 4000000 in
set_option maxRecDepth 100000 in
theorem bT_takeNumbers2_51 {At : Nat → Nat} {tby : Nat → Int32} {tnu : Nat → Int32} {tln : Int32} {tat : Int32} {tsr : Int32} {ttk : Int32} {tnm : Int32} {tit : Int32} {tft : Int32} {tnu_z : Nat → Int32} {tat_z : Int32} {tsr_z : Int32} {ttk_z : Int32} {tnm_z : Int32} {tft_z : Int32} {r0 : Int32} (X : Cx Γ p s m args meth c RX10 cX10_takeNumbers 4 (some .boolean) w0) (hf : T_takeNumbers2_51 tby tnu tln tat tsr ttk tnm tft = some (r0, tnu_z, tat_z, tsr_z, ttk_z, tnm_z, tft_z)) (Y : Wd Γ w0 s (WT Γ At tby tnu tln tat tsr ttk tnm tit tft) H locs) (hl : lv_has ls 4 [(0, .ref (At 0))]) : W p l e rmT_takeNumbers2 s m args below meth c H locs 0 0 (EI Γ below args s w0 (WT Γ At tby tnu_z tln tat_z tsr_z ttk_z tnm_z tit tft_z) r0) (F0 m 51 ls []) := by
  have hx := X.1
  have hb := X.2.1
  refine lv_aload_n hx hb dX10_takeNumbers_51 rfl (lv_at hl 0 rfl) ?_
  refine lv_aload_n hx hb dX10_takeNumbers_52 rfl (lv_at hl 0 rfl) ?_
  refine gfX10_81 X Y (v := .int tsr) 0 rfl rfl dX10_takeNumbers_53 ?_
  refine pfX10_33 X Y 0 rfl rfl rfl (Nat.le_of_ble_eq_true rfl) (ws' := (WT Γ At tby tnu tln tat tsr ttk tnm tit tsr)) rfl dX10_takeNumbers_56 (fun H locs Y => ?_)
  refine lv_iconst (v := (0 : Int32)) hx hb dX10_takeNumbers_59 (by decide) ?_
  obtain ⟨e90, e91, e92, e93, e94, e95, e96⟩ := sj7 hf
  subst e90
  subst e91
  subst e92
  subst e93
  subst e94
  subst e95
  subst e96
  exact x_zret X Y rfl dX10_takeNumbers_60
def T_takeNumbers2_6 (rc6 : Int32 → (Nat → Int32) → (Nat → Int32) → Int32 → Int32 → Int32 → Int32 → Int32 → Int32 → Option (Int32 × (Nat → Int32) × Int32 × Int32 × Int32 × Int32 × Int32)) (x3 : Int32) (tby : Nat → Int32) (tnu : Nat → Int32) (tln : Int32) (tat : Int32) (tsr : Int32) (ttk : Int32) (tnm : Int32) (tft : Int32) : Option (Int32 × (Nat → Int32) × Int32 × Int32 × Int32 × Int32 × Int32) := if (2 : Int32) ≤ x3 then (some ((1 : Int32), tnu, tat, tsr, ttk, tnm, tft)) else (if (2 : Int32) ≤ x3 then (some ((1 : Int32), tnu, tat, tsr, ttk, tnm, tft)) else (if (6 : Int32) ≤ x3 then (some ((1 : Int32), tnu, tat, tsr, ttk, tnm, tft)) else (if ttk = (4 : Int32) then (ck (inb x3 2) (ck (inb x3 2) (bd1 (X_within tnm (([0, 0] : List Int32).getD x3.toNatClampNeg 0) (([99, 200] : List Int32).getD x3.toNatClampNeg 0)) (fun (r_7 : Int32) => if r_7 = 0 then (T_takeNumbers2_51 tby tnu tln tat tsr ttk tnm tft) else (ck (inb x3 6) (bnd (upd tnu x3.toNatClampNeg tnm) (fun (tnu_9 : Nat → Int32) => bd4 (T_step tby tln tat tsr ttk tnm) (fun (tat_11 : Int32) (tsr_12 : Int32) (ttk_13 : Int32) (tnm_14 : Int32) => bnd (x3 + (1 : Int32)) (fun (x3_15 : Int32) => rc6 x3_15 tby tnu_9 tln tat_11 tsr_12 ttk_13 tnm_14 tft))))))))) else (T_takeNumbers2_51 tby tnu tln tat tsr ttk tnm tft))))
set_option maxHeartbeats 4000000 in
set_option maxRecDepth 100000 in
theorem bT_takeNumbers2_6 {At : Nat → Nat} {tby : Nat → Int32} {tnu : Nat → Int32} {tln : Int32} {tat : Int32} {tsr : Int32} {ttk : Int32} {tnm : Int32} {tit : Int32} {tft : Int32} {tnu_z : Nat → Int32} {tat_z : Int32} {tsr_z : Int32} {ttk_z : Int32} {tnm_z : Int32} {tft_z : Int32} {r0 : Int32} {x3 : Int32} {rc6 : Int32 → (Nat → Int32) → (Nat → Int32) → Int32 → Int32 → Int32 → Int32 → Int32 → Int32 → Option (Int32 × (Nat → Int32) × Int32 × Int32 × Int32 × Int32 × Int32)} (X : Cx Γ p s m args meth c RX10 cX10_takeNumbers 4 (some .boolean) w0) (h6 : ∀ (x3 : Int32) (tby : Nat → Int32) (tnu : Nat → Int32) (tln : Int32) (tat : Int32) (tsr : Int32) (ttk : Int32) (tnm : Int32) (tft : Int32), rc6 x3 tby tnu tln tat tsr ttk tnm tft = some (r0, tnu_z, tat_z, tsr_z, ttk_z, tnm_z, tft_z) → ∀ (H : Heap) (locs : List Loc) (ls : Array Slot), Wd Γ w0 s (WT Γ At tby tnu tln tat tsr ttk tnm tit tft) H locs → lv_has ls 4 [(0, .ref (At 0)), (1, .ref (Γ.2.2 0)), (2, .ref (Γ.2.2 1)), (3, .int x3)] → W p l e rmT_takeNumbers2 s m args below meth c H locs 0 0 (EI Γ below args s w0 (WT Γ At tby tnu_z tln tat_z tsr_z ttk_z tnm_z tit tft_z) r0) (F0 m 6 ls [])) (hf : T_takeNumbers2_6 rc6 x3 tby tnu tln tat tsr ttk tnm tft = some (r0, tnu_z, tat_z, tsr_z, ttk_z, tnm_z, tft_z)) (Y : Wd Γ w0 s (WT Γ At tby tnu tln tat tsr ttk tnm tit tft) H locs) (hl : lv_has ls 4 [(0, .ref (At 0)), (1, .ref (Γ.2.2 0)), (2, .ref (Γ.2.2 1)), (3, .int x3)]) : W p l e rmT_takeNumbers2 s m args below meth c H locs 0 0 (EI Γ below args s w0 (WT Γ At tby tnu_z tln tat_z tsr_z ttk_z tnm_z tit tft_z) r0) (F0 m 6 ls []) := by
  have hx := X.1
  have hb := X.2.1
  refine lv_iload_n hx hb dX10_takeNumbers_6 rfl (lv_at hl 3 rfl) ?_
  refine lv_aload_n hx hb dX10_takeNumbers_7 rfl (lv_at hl 1 rfl) ?_
  refine x_tlen X Y 0 (q := ("SHIP_LEAST", [0, 0])) rfl (v := (2 : Int32)) rfl dX10_takeNumbers_8 ?_
  refine lv_icmp_ge (tgt := 81) hx hb dX10_takeNumbers_9 (by decide) (fun c_1 => ?_) (fun c_1 => ?_)
  · have hf := ite_t hf c_1
    refine lv_iconst (v := (1 : Int32)) hx hb dX10_takeNumbers_81 (by decide) ?_
    obtain ⟨e90, e91, e92, e93, e94, e95, e96⟩ := sj7 hf
    subst e90
    subst e91
    subst e92
    subst e93
    subst e94
    subst e95
    subst e96
    exact x_zret X Y rfl dX10_takeNumbers_82
  · have hf := ite_f hf c_1
    refine lv_iload_n hx hb dX10_takeNumbers_12 rfl (lv_at hl 3 rfl) ?_
    refine lv_aload_n hx hb dX10_takeNumbers_13 rfl (lv_at hl 2 rfl) ?_
    refine x_tlen X Y 1 (q := ("SHIP_MOST", [99, 200])) rfl (v := (2 : Int32)) rfl dX10_takeNumbers_14 ?_
    refine lv_icmp_ge (tgt := 81) hx hb dX10_takeNumbers_15 (by decide) (fun c_2 => ?_) (fun c_2 => ?_)
    · have hf := ite_t hf c_2
      refine lv_iconst (v := (1 : Int32)) hx hb dX10_takeNumbers_81 (by decide) ?_
      obtain ⟨e90, e91, e92, e93, e94, e95, e96⟩ := sj7 hf
      subst e90
      subst e91
      subst e92
      subst e93
      subst e94
      subst e95
      subst e96
      exact x_zret X Y rfl dX10_takeNumbers_82
    · have hf := ite_f hf c_2
      refine lv_iload_n hx hb dX10_takeNumbers_18 rfl (lv_at hl 3 rfl) ?_
      refine lv_aload_n hx hb dX10_takeNumbers_19 rfl (lv_at hl 0 rfl) ?_
      refine gfX10_15 X Y (v := .ref (At 2)) 0 rfl rfl dX10_takeNumbers_20 ?_
      refine x_alen X Y 2 0 rfl rfl (v := (6 : Int32)) rfl dX10_takeNumbers_23 ?_
      refine lv_icmp_ge (tgt := 81) hx hb dX10_takeNumbers_24 (by decide) (fun c_3 => ?_) (fun c_3 => ?_)
      · have hf := ite_t hf c_3
        refine lv_iconst (v := (1 : Int32)) hx hb dX10_takeNumbers_81 (by decide) ?_
        obtain ⟨e90, e91, e92, e93, e94, e95, e96⟩ := sj7 hf
        subst e90
        subst e91
        subst e92
        subst e93
        subst e94
        subst e95
        subst e96
        exact x_zret X Y rfl dX10_takeNumbers_82
      · have hf := ite_f hf c_3
        refine lv_aload_n hx hb dX10_takeNumbers_27 rfl (lv_at hl 0 rfl) ?_
        refine gfX10_39 X Y (v := .int ttk) 0 rfl rfl dX10_takeNumbers_28 ?_
        refine lv_iconst (v := (4 : Int32)) hx hb dX10_takeNumbers_31 (by decide) ?_
        refine lv_icmp_ne (tgt := 51) hx hb dX10_takeNumbers_32 (by decide) (fun c_4 => ?_) (fun c_4 => ?_)
        · have hf := ite_f hf c_4
          exact bT_takeNumbers2_51 X hf Y (lv_sub hl [0] rfl)
        · have hf := ite_t hf c_4
          refine lv_aload_n hx hb dX10_takeNumbers_35 rfl (lv_at hl 0 rfl) ?_
          refine gfX10_84 X Y (v := .int tnm) 0 rfl rfl dX10_takeNumbers_36 ?_
          refine lv_aload_n hx hb dX10_takeNumbers_39 rfl (lv_at hl 1 rfl) ?_
          refine lv_iload_n hx hb dX10_takeNumbers_40 rfl (lv_at hl 3 rfl) ?_
          obtain ⟨hi_5, hf⟩ := ck_some hf
          refine x_ti X Y 0 (q := ("SHIP_LEAST", [0, 0])) rfl hi_5 rfl dX10_takeNumbers_41 ?_
          refine lv_aload_n hx hb dX10_takeNumbers_42 rfl (lv_at hl 2 rfl) ?_
          refine lv_iload_n hx hb dX10_takeNumbers_43 rfl (lv_at hl 3 rfl) ?_
          obtain ⟨hi_6, hf⟩ := ck_some hf
          refine x_ti X Y 1 (q := ("SHIP_MOST", [99, 200])) rfl hi_6 rfl dX10_takeNumbers_44 ?_
          obtain ⟨r_7, ho_17, hf⟩ := bd1_some hf
          refine t_i Y (bk0 Y) (r_SN (As := [.int tnm, .int (([0, 0] : List Int32).getD x3.toNatClampNeg 0), .int (([99, 200] : List Int32).getD x3.toNatClampNeg 0)]) (rest := []) X (c_pre0 X Y) (cX_within ho_17) (cwX10_23 X (by decide)) rfl hl.1 (Nat.le_of_ble_eq_true rfl) rfl dX10_takeNumbers_45 ⟨Nat.zero_le _, Nat.zero_le _⟩) (fun H locs Y => ?_)
          refine lv_if_ne (tgt := 61) hx hb dX10_takeNumbers_48 (by decide) (fun c_8 => ?_) (fun c_8 => ?_)
          · have hf := ite_f hf c_8
            refine lv_aload_n hx hb dX10_takeNumbers_61 rfl (lv_at hl 0 rfl) ?_
            refine gfX10_15 X Y (v := .ref (At 2)) 0 rfl rfl dX10_takeNumbers_62 ?_
            refine lv_iload_n hx hb dX10_takeNumbers_65 rfl (lv_at hl 3 rfl) ?_
            refine lv_aload_n hx hb dX10_takeNumbers_66 rfl (lv_at hl 0 rfl) ?_
            refine gfX10_84 X Y (v := .int tnm) 0 rfl rfl dX10_takeNumbers_67 ?_
            obtain ⟨hi_10, hf⟩ := ck_some hf
            obtain ⟨tnu_9, e_tnu_9⟩ : ∃ z : Nat → Int32, z = (upd tnu x3.toNatClampNeg tnm) := ⟨_, rfl⟩
            have hf := bnd_eq hf e_tnu_9
            refine x_iast X Y 2 rfl rfl hi_10 (ws' := (WT Γ At tby tnu_9 tln tat tsr ttk tnm tit tft)) (by subst e_tnu_9; rfl) dX10_takeNumbers_70 (fun H locs Y => ?_)
            refine lv_aload_n hx hb dX10_takeNumbers_71 rfl (lv_at hl 0 rfl) ?_
            obtain ⟨tat_11, tsr_12, ttk_13, tnm_14, ho_16, hf⟩ := bd4_some hf
            refine t_v Y (bkS Y) (r_V (As := []) (rest := []) X (c_preS X Y) (cT_step ho_16) (cwX10_36 X (by decide)) (va_recv X.K Y.1 (q := (RX10, TX10, 9)) (q0 := 0) (ci := 10) rfl rfl) rfl hl.1 (Nat.le_of_ble_eq_true rfl) rfl dX10_takeNumbers_72 ⟨Nat.zero_le _, Nat.zero_le _⟩) (fun H locs Y => ?_)
            obtain ⟨x3_15, e_x3_15⟩ : ∃ z : Int32, z = (x3 + (1 : Int32)) := ⟨_, rfl⟩
            have hf := bnd_eq hf e_x3_15
            refine lv_iinc (v := x3_15) (lv' := [(3, .int x3_15), (0, .ref (At 0)), (1, .ref (Γ.2.2 0)), (2, .ref (Γ.2.2 1))]) hx hb dX10_takeNumbers_75 hl (k := 3) rfl (by rw [e_x3_15]; rfl) (by decide) rfl (fun ls hl => ?_)
            refine lv_goto (tgt := 6) hx hb dX10_takeNumbers_78 (by decide) ?_
            exact h6 _ _ _ _ _ _ _ _ _ hf _ _ _ Y (lv_sub hl [1, 2, 3, 0] rfl)
          · have hf := ite_t hf c_8
            exact bT_takeNumbers2_51 X hf Y (lv_sub hl [0] rfl)
def T_takeNumbers2_L6 : Nat → Int32 → (Nat → Int32) → (Nat → Int32) → Int32 → Int32 → Int32 → Int32 → Int32 → Int32 → Option (Int32 × (Nat → Int32) × Int32 × Int32 × Int32 × Int32 × Int32)
  | 0, _, _, _, _, _, _, _, _, _ => none
  | n + 1, x3, tby, tnu, tln, tat, tsr, ttk, tnm, tft => T_takeNumbers2_6 (T_takeNumbers2_L6 n) x3 tby tnu tln tat tsr ttk tnm tft
theorem lT_takeNumbers2_6 {At : Nat → Nat} {tit : Int32} {tnu_z : Nat → Int32} {tat_z : Int32} {tsr_z : Int32} {ttk_z : Int32} {tnm_z : Int32} {tft_z : Int32} {r0 : Int32} (X : Cx Γ p s m args meth c RX10 cX10_takeNumbers 4 (some .boolean) w0) : ∀ (n : Nat) (x3 : Int32) (tby : Nat → Int32) (tnu : Nat → Int32) (tln : Int32) (tat : Int32) (tsr : Int32) (ttk : Int32) (tnm : Int32) (tft : Int32), T_takeNumbers2_L6 n x3 tby tnu tln tat tsr ttk tnm tft = some (r0, tnu_z, tat_z, tsr_z, ttk_z, tnm_z, tft_z) → ∀ (H : Heap) (locs : List Loc) (ls : Array Slot), Wd Γ w0 s (WT Γ At tby tnu tln tat tsr ttk tnm tit tft) H locs → lv_has ls 4 [(0, .ref (At 0)), (1, .ref (Γ.2.2 0)), (2, .ref (Γ.2.2 1)), (3, .int x3)] → W p l e rmT_takeNumbers2 s m args below meth c H locs 0 0 (EI Γ below args s w0 (WT Γ At tby tnu_z tln tat_z tsr_z ttk_z tnm_z tit tft_z) r0) (F0 m 6 ls []) := by
  intro n
  induction n with
  | zero => intro x3 tby tnu tln tat tsr ttk tnm tft hf; cases hf
  | succ n ih => intro x3 tby tnu tln tat tsr ttk tnm tft hf H locs ls Y hl; exact bT_takeNumbers2_6 X ih hf Y hl
def T_takeNumbers2 (tby : Nat → Int32) (tnu : Nat → Int32) (tln : Int32) (tat : Int32) (tsr : Int32) (ttk : Int32) (tnm : Int32) (tft : Int32) : Option (Int32 × (Nat → Int32) × Int32 × Int32 × Int32 × Int32 × Int32) := bd4 (T_step tby tln tat tsr ttk tnm) (fun (tat_1 : Int32) (tsr_2 : Int32) (ttk_3 : Int32) (tnm_4 : Int32) => T_takeNumbers2_L6 FU (0 : Int32) tby tnu tln tat_1 tsr_2 ttk_3 tnm_4 tft)
set_option maxHeartbeats 4000000 in
set_option maxRecDepth 100000 in
theorem bT_takeNumbers2_e {At : Nat → Nat} {tby : Nat → Int32} {tnu : Nat → Int32} {tln : Int32} {tat : Int32} {tsr : Int32} {ttk : Int32} {tnm : Int32} {tit : Int32} {tft : Int32} {tnu_z : Nat → Int32} {tat_z : Int32} {tsr_z : Int32} {ttk_z : Int32} {tnm_z : Int32} {tft_z : Int32} {r0 : Int32} (X : Cx Γ p s m args meth c RX10 cX10_takeNumbers 4 (some .boolean) w0) (hf : T_takeNumbers2 tby tnu tln tat tsr ttk tnm tft = some (r0, tnu_z, tat_z, tsr_z, ttk_z, tnm_z, tft_z)) (Y : Wd Γ w0 s (WT Γ At tby tnu tln tat tsr ttk tnm tit tft) H locs) (hl : lv_has ls 4 [(0, .ref (At 0)), (1, .ref (Γ.2.2 0)), (2, .ref (Γ.2.2 1))]) : W p l e rmT_takeNumbers2 s m args below meth c H locs 0 0 (EI Γ below args s w0 (WT Γ At tby tnu_z tln tat_z tsr_z ttk_z tnm_z tit tft_z) r0) (F0 m 0 ls []) := by
  have hx := X.1
  have hb := X.2.1
  refine lv_aload_n hx hb dX10_takeNumbers_0 rfl (lv_at hl 0 rfl) ?_
  obtain ⟨tat_1, tsr_2, ttk_3, tnm_4, ho_5, hf⟩ := bd4_some hf
  refine t_v Y (bkS Y) (r_V (As := []) (rest := []) X (c_preS X Y) (cT_step ho_5) (cwX10_36 X (by decide)) (va_recv X.K Y.1 (q := (RX10, TX10, 9)) (q0 := 0) (ci := 10) rfl rfl) rfl hl.1 (Nat.le_of_ble_eq_true rfl) rfl dX10_takeNumbers_1 ⟨Nat.zero_le _, Nat.zero_le _⟩) (fun H locs Y => ?_)
  refine lv_iconst (v := (0 : Int32)) hx hb dX10_takeNumbers_4 (by decide) ?_
  refine lv_istore_n (lv' := [(3, .int (0 : Int32)), (0, .ref (At 0)), (1, .ref (Γ.2.2 0)), (2, .ref (Γ.2.2 1))]) hx hb dX10_takeNumbers_5 rfl hl (by decide) rfl (fun ls hl => ?_)
  exact lT_takeNumbers2_6 X _ _ _ _ _ _ _ _ _ _ hf _ _ _ Y (lv_sub hl [1, 2, 3, 0] rfl)
theorem cT_takeNumbers2 {l : Launch} {Γ : Gm} {At : Nat → Nat} {tby : Nat → Int32} {tnu : Nat → Int32} {tln : Int32} {tat : Int32} {tsr : Int32} {ttk : Int32} {tnm : Int32} {tit : Int32} {tft : Int32} {tnu_z : Nat → Int32} {tat_z : Int32} {tsr_z : Int32} {ttk_z : Int32} {tnm_z : Int32} {tft_z : Int32} {r0 : Int32} (h : T_takeNumbers2 tby tnu tln tat tsr ttk tnm tft = some (r0, tnu_z, tat_z, tsr_z, ttk_z, tnm_z, tft_z)) : CI l Γ yX10_takeNumbers (Cond.code yX10_takeNumbers cX10_takeNumbers 4 (some .boolean) :: GW) rmT_takeNumbers2 [.ref (At 0), .ref (Γ.2.2 0), .ref (Γ.2.2 1)] (WT Γ At tby tnu tln tat tsr ttk tnm tit tft) (WT Γ At tby tnu_z tln tat_z tsr_z ttk_z tnm_z tit tft_z) r0 := ofBody (Qc := QcI Γ _ _ r0) (by decide) (Nat.le_of_ble_eq_true rfl) (fun p e s m below meth c ls _ X Y hl => bT_takeNumbers2_e X h Y hl)
end
