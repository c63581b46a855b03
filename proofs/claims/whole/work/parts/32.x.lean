section
variable {p : Program} {l : Launch} {e : Env} {R : Room} {s : State} {m : MethodId} {args : Array Value} {below : List Frame} {meth : Method} {c : Code} {H : Heap} {locs : List Loc} {Q : State → Prop} {cells slots : Nat}
variable {Γ : Gm} {own : String} {cc : ByteArray} {nL : Nat} {ret : Option FieldType} {w0 ws ws' : va_W} {pc : Nat} {ls : Array Slot} {rest : List Value} {a : Nat}
theorem pfX3_23 (X : Cx Γ p s m args meth c RX3 cc nL ret w0) (Y : Wd Γ w0 s ws H locs) (q0 : Nat) {fs : List Value} (he : ws[q0]? = some (a, .inr (3, fs))) {v : Value} (hn : narrow (tyX3 0) v = v) (hfit : fits (tyX3 0) v = true) (hl : 0 < fs.length) (hw : ws.set q0 (a, .inr (3, fs.set 0 v)) = ws') (hdg : decode cc pc = .ok (.putfield 23, 3)) (kk : ∀ (H1 : Heap) (locs1 : List Loc), Wd Γ w0 s ws' H1 locs1 → W p l e R s m args below meth c H1 locs1 cells slots Q (F0 m (pc + 3) ls rest)) : W p l e R s m args below meth c H locs cells slots Q (F0 m pc ls (v :: .ref a :: rest)) := x_put X Y iX3 tyX3 tyX3_ok nmX3 rfl 0 (by decide) rfl kw356 rfl q0 he hn hfit hl hw hdg kk
theorem pfX3_7 (X : Cx Γ p s m args meth c RX3 cc nL ret w0) (Y : Wd Γ w0 s ws H locs) (q0 : Nat) {fs : List Value} (he : ws[q0]? = some (a, .inr (3, fs))) {v : Value} (hn : narrow (tyX3 1) v = v) (hfit : fits (tyX3 1) v = true) (hl : 1 < fs.length) (hw : ws.set q0 (a, .inr (3, fs.set 1 v)) = ws') (hdg : decode cc pc = .ok (.putfield 7, 3)) (kk : ∀ (H1 : Heap) (locs1 : List Loc), Wd Γ w0 s ws' H1 locs1 → W p l e R s m args below meth c H1 locs1 cells slots Q (F0 m (pc + 3) ls rest)) : W p l e R s m args below meth c H locs cells slots Q (F0 m pc ls (v :: .ref a :: rest)) := x_put X Y iX3 tyX3 tyX3_ok nmX3 rfl 1 (by decide) rfl kw357 rfl q0 he hn hfit hl hw hdg kk
theorem dmX3_greatestCommonS : yX3_greatestCommon.cls ≠ "java/lang/invoke/MethodHandle" ∧ yX3_greatestCommon.cls ≠ "java/lang/invoke/VarHandle" ∧ (parseMethodDescriptor yX3_greatestCommon.desc).map (fun d => d.parameters.length) = some 2 := by decide +kernel
theorem cwX3_19 (X : Cx Γ p s m args meth c RX3 cc nL ret w0) (hR : rmF_greatestCommon.frames + 1 ≤ R.frames ∧ 8 + (7 + 11) + rmF_greatestCommon.locals ≤ R.locals) : CallB R s args RX3 19 yX3_greatestCommon cX3_greatestCommon 7 (some .long) (Cond.code yX3_greatestCommon cX3_greatestCommon 7 (some .long) :: GW) rmF_greatestCommon 0 0 2 ∧ (Cond.static yX3_greatestCommon).before args s = true := cw_S X kw358 kw359 kw360 kw361 dmX3_greatestCommonS rfl rfl hR
def rmF_become : Room := { frames := 1, cells := 0, slots := 0, locals := 30 }
def F_become (x1 : Int64) (x3 : Int64) (fab : Int64) (fbe : Int64) : Option (Int64 × Int64) := bd1 (F_greatestCommon (if 0 < x1 then x1 else -x1) x3) (fun (r_1 : Int64) => if (lg_cmp r_1 (0 : Int64)) ≤ 0 then (some (fab, fbe)) else (ck (decide (¬ r_1 = 0)) (bnd (x1 / r_1) (fun (fab_4 : Int64) => ck (decide (¬ r_1 = 0)) (bnd (x3 / r_1) (fun (fbe_6 : Int64) => some (fab_4, fbe_6)))))))
set_option maxHeartbeats 4000000 in
set_option maxRecDepth 100000 in
theorem bF_become_e {Af : Nat → Nat} {fab : Int64} {fbe : Int64} {fab_z : Int64} {fbe_z : Int64} {x1 : Int64} {x3 : Int64} (X : Cx Γ p s m args meth c RX3 cX3_become 7 none w0) (hf : F_become x1 x3 fab fbe = some (fab_z, fbe_z)) (Y : Wd Γ w0 s (WF Γ Af fab fbe) H locs) (hl : lv_has ls 7 [(0, .ref (Af 0)), (1, .long x1), (3, .long x3)]) : W p l e rmF_become s m args below meth c H locs 0 0 (EV Γ below args s w0 (WF Γ Af fab_z fbe_z)) (F0 m 0 ls []) := by
  have hx := X.1
  have hb := X.2.1
  refine lv_lload_n hx hb dX3_become_0 rfl (lv_at hl 1 rfl) ?_
  refine va_mabs_long hx hb (X.2.2.1.trans hl.1.symm) X.2.2.2.1 (X.2.2.2.2.1 _ kw352) (X.2.2.2.2.1 _ kw353) (X.2.2.2.2.1 _ kw354) (X.2.2.2.2.1 _ kw355) (by decide) (Nat.le_of_ble_eq_true rfl) (Nat.zero_le _) (Nat.zero_le _) dX3_become_1 ?_
  refine lv_lload_n hx hb dX3_become_4 rfl (lv_at hl 2 rfl) ?_
  obtain ⟨r_1, ho_7, hf⟩ := bd1_some hf
  refine t_l Y (bk0 Y) (r_S (As := [.long (if 0 < x1 then x1 else -x1), .long x3]) (rest := []) X (c_pre0 X Y) (cF_greatestCommon ho_7) (cwX3_19 X (by decide)) rfl hl.1 (Nat.le_of_ble_eq_true rfl) rfl dX3_become_5 ⟨Nat.zero_le _, Nat.zero_le _⟩) (fun H locs Y => ?_)
  refine lv_lstore (lv' := [(5, .long r_1), (0, .ref (Af 0)), (1, .long x1), (3, .long x3)]) hx hb dX3_become_8 hl (by decide) rfl (fun ls hl => ?_)
  refine lv_lload hx hb dX3_become_10 (lv_at hl 0 rfl) ?_
  refine lv_lconst (v := (0 : Int64)) hx hb dX3_become_12 (by decide) ?_
  refine W.lcmp hx hb dX3_become_13 ?_
  refine lv_if_le (tgt := 33) hx hb dX3_become_14 (by decide) (fun c_2 => ?_) (fun c_2 => ?_)
  · have hf := ite_t hf c_2
    obtain ⟨e90, e91⟩ := sj2 hf
    subst e90
    subst e91
    exact x_vret X Y dX3_become_33
  · have hf := ite_f hf c_2
    refine lv_aload_n hx hb dX3_become_17 rfl (lv_at hl 1 rfl) ?_
    refine lv_lload_n hx hb dX3_become_18 rfl (lv_at hl 2 rfl) ?_
    refine lv_lload hx hb dX3_become_19 (lv_at hl 0 rfl) ?_
    obtain ⟨hz_3, hf⟩ := ck_some hf
    refine lv_ldiv hx hb dX3_become_21 (of_decide_eq_true hz_3) ?_
    refine lv_topl (fun fab_4 e_fab_4 => ?_)
    have hf := bnd_eq hf e_fab_4
    refine pfX3_23 X Y 0 rfl rfl rfl (Nat.le_of_ble_eq_true rfl) (ws' := (WF Γ Af fab_4 fbe)) rfl dX3_become_22 (fun H locs Y => ?_)
    refine lv_aload_n hx hb dX3_become_25 rfl (lv_at hl 1 rfl) ?_
    refine lv_lload_n hx hb dX3_become_26 rfl (lv_at hl 3 rfl) ?_
    refine lv_lload hx hb dX3_become_27 (lv_at hl 0 rfl) ?_
    obtain ⟨hz_5, hf⟩ := ck_some hf
    refine lv_ldiv hx hb dX3_become_29 (of_decide_eq_true hz_5) ?_
    refine lv_topl (fun fbe_6 e_fbe_6 => ?_)
    have hf := bnd_eq hf e_fbe_6
    refine pfX3_7 X Y 0 rfl rfl rfl (Nat.le_of_ble_eq_true rfl) (ws' := (WF Γ Af fab_4 fbe_6)) rfl dX3_become_30 (fun H locs Y => ?_)
    obtain ⟨e90, e91⟩ := sj2 hf
    subst e90
    subst e91
    exact x_vret X Y dX3_become_33
theorem cF_become {l : Launch} {Γ : Gm} {Af : Nat → Nat} {fab : Int64} {fbe : Int64} {fab_z : Int64} {fbe_z : Int64} {x1 : Int64} {x3 : Int64} (h : F_become x1 x3 fab fbe = some (fab_z, fbe_z)) : CV l Γ yX3_become (Cond.code yX3_become cX3_become 7 none :: GW) rmF_become [.ref (Af 0), .long x1, .long x3] (WF Γ Af fab fbe) (WF Γ Af fab_z fbe_z) := ofBody (Qc := QcV Γ _ _) (by decide) (Nat.le_of_ble_eq_true rfl) (fun p e s m below meth c ls _ X Y hl => bF_become_e X h Y hl)
theorem gfX6_82 (X : Cx Γ p s m args meth c RX6 cc nL ret w0) (Y : Wd Γ w0 s ws H locs) {v : Value} (q0 : Nat) {fs : List Value} (he : ws[q0]? = some (a, .inr (6, fs))) (hv : fs[7]? = some v) (hdg : decode cc pc = .ok (.getfield 82, 3)) (kk : W p l e R s m args below meth c H locs cells slots Q (F0 m (pc + 3) ls (v :: rest))) : W p l e R s m args below meth c H locs cells slots Q (F0 m pc ls (.ref a :: rest)) := x_get X Y iX6 rfl 7 (by decide) rfl kw362 q0 he hv hdg kk
theorem gfX6_79 (X : Cx Γ p s m args meth c RX6 cc nL ret w0) (Y : Wd Γ w0 s ws H locs) {v : Value} (q0 : Nat) {fs : List Value} (he : ws[q0]? = some (a, .inr (6, fs))) (hv : fs[6]? = some v) (hdg : decode cc pc = .ok (.getfield 79, 3)) (kk : W p l e R s m args below meth c H locs cells slots Q (F0 m (pc + 3) ls (v :: rest))) : W p l e R s m args below meth c H locs cells slots Q (F0 m pc ls (.ref a :: rest)) := x_get X Y iX6 rfl 6 (by decide) rfl kw363 q0 he hv hdg kk
theorem gfX6_66 (X : Cx Γ p s m args meth c RX6 cc nL ret w0) (Y : Wd Γ w0 s ws H locs) {v : Value} (q0 : Nat) {fs : List Value} (he : ws[q0]? = some (a, .inr (6, fs))) (hv : fs[5]? = some v) (hdg : decode cc pc = .ok (.getfield 66, 3)) (kk : W p l e R s m args below meth c H locs cells slots Q (F0 m (pc + 3) ls (v :: rest))) : W p l e R s m args below meth c H locs cells slots Q (F0 m pc ls (.ref a :: rest)) := x_get X Y iX6 rfl 5 (by decide) rfl kw364 q0 he hv hdg kk
def rmQ_isBetter : Room := { frames := 0, cells := 0, slots := 0, locals := 0 }
def Q_isBetter (x1 : Int32) (x2 : Int32) (x3 : Int32) (qbb : Int32) (qbc : Int32) (qbw : Int32) : Option (Int32) := if x3 = qbw then (if x2 = qbc then (if qbb ≤ x1 then (some (0 : Int32)) else (some (1 : Int32))) else (if qbc ≤ x2 then (some (0 : Int32)) else (some (1 : Int32)))) else (if qbw ≤ x3 then (some (0 : Int32)) else (some (1 : Int32)))
set_option maxHeartbeats 4000000 in
set_option maxRecDepth 100000 in
theorem bQ_isBetter_e {Aq : Nat → Nat} {qhe : Nat → Int32} {qbi : Nat → Int32} {qhv : Nat → Int32} {qwo : Nat → Int32} {qts : Int32} {qbb : Int32} {qbc : Int32} {qbw : Int32} {r0 : Int32} {x1 : Int32} {x2 : Int32} {x3 : Int32} (X : Cx Γ p s m args meth c RX6 cX6_isBetter 4 (some .boolean) w0) (hf : Q_isBetter x1 x2 x3 qbb qbc qbw = some r0) (Y : Wd Γ w0 s (WQ Γ Aq qhe qbi qhv qwo qts qbb qbc qbw) H locs) (hl : lv_has ls 4 [(0, .ref (Aq 0)), (1, .int x1), (2, .int x2), (3, .int x3)]) : W p l e rmQ_isBetter s m args below meth c H locs 0 0 (EI Γ below args s w0 (WQ Γ Aq qhe qbi qhv qwo qts qbb qbc qbw) r0) (F0 m 0 ls []) := by
  have hx := X.1
  have hb := X.2.1
  refine lv_iload_n hx hb dX6_isBetter_0 rfl (lv_at hl 3 rfl) ?_
  refine lv_aload_n hx hb dX6_isBetter_1 rfl (lv_at hl 0 rfl) ?_
  refine gfX6_82 X Y (v := .int qbw) 0 rfl rfl dX6_isBetter_2 ?_
  refine lv_icmp_eq (tgt := 22) hx hb dX6_isBetter_5 (by decide) (fun c_1 => ?_) (fun c_1 => ?_)
  · have hf := ite_t hf c_1
    refine lv_iload_n hx hb dX6_isBetter_22 rfl (lv_at hl 2 rfl) ?_
    refine lv_aload_n hx hb dX6_isBetter_23 rfl (lv_at hl 0 rfl) ?_
    refine gfX6_79 X Y (v := .int qbc) 0 rfl rfl dX6_isBetter_24 ?_
    refine lv_icmp_eq (tgt := 46) hx hb dX6_isBetter_27 (by decide) (fun c_2 => ?_) (fun c_2 => ?_)
    · have hf := ite_t hf c_2
      refine lv_iload_n hx hb dX6_isBetter_46 rfl (lv_at hl 1 rfl) ?_
      refine lv_aload_n hx hb dX6_isBetter_47 rfl (lv_at hl 0 rfl) ?_
      refine gfX6_66 X Y (v := .int qbb) 0 rfl rfl dX6_isBetter_48 ?_
      refine lv_icmp_ge (tgt := 58) hx hb dX6_isBetter_51 (by decide) (fun c_3 => ?_) (fun c_3 => ?_)
      · have hf := ite_t hf c_3
        refine lv_iconst (v := (0 : Int32)) hx hb dX6_isBetter_58 (by decide) ?_
        have e90 := Option.some.inj hf
        subst e90
        exact x_zret X Y rfl dX6_isBetter_59
      · have hf := ite_f hf c_3
        refine lv_iconst (v := (1 : Int32)) hx hb dX6_isBetter_54 (by decide) ?_
        refine lv_goto (tgt := 59) hx hb dX6_isBetter_55 (by decide) ?_
        have e90 := Option.some.inj hf
        subst e90
        exact x_zret X Y rfl dX6_isBetter_59
    · have hf := ite_f hf c_2
      refine lv_iload_n hx hb dX6_isBetter_30 rfl (lv_at hl 2 rfl) ?_
      refine lv_aload_n hx hb dX6_isBetter_31 rfl (lv_at hl 0 rfl) ?_
      refine gfX6_79 X Y (v := .int qbc) 0 rfl rfl dX6_isBetter_32 ?_
      refine lv_icmp_ge (tgt := 42) hx hb dX6_isBetter_35 (by decide) (fun c_4 => ?_) (fun c_4 => ?_)
      · have hf := ite_t hf c_4
        refine lv_iconst (v := (0 : Int32)) hx hb dX6_isBetter_42 (by decide) ?_
        refine lv_goto (tgt := 59) hx hb dX6_isBetter_43 (by decide) ?_
        have e90 := Option.some.inj hf
        subst e90
        exact x_zret X Y rfl dX6_isBetter_59
      · have hf := ite_f hf c_4
        refine lv_iconst (v := (1 : Int32)) hx hb dX6_isBetter_38 (by decide) ?_
        refine lv_goto (tgt := 59) hx hb dX6_isBetter_39 (by decide) ?_
        have e90 := Option.some.inj hf
        subst e90
        exact x_zret X Y rfl dX6_isBetter_59
  · have hf := ite_f hf c_1
    refine lv_iload_n hx hb dX6_isBetter_8 rfl (lv_at hl 3 rfl) ?_
    refine lv_aload_n hx hb dX6_isBetter_9 rfl (lv_at hl 0 rfl) ?_
    refine gfX6_82 X Y (v := .int qbw) 0 rfl rfl dX6_isBetter_10 ?_
    refine lv_icmp_ge (tgt := 20) hx hb dX6_isBetter_13 (by decide) (fun c_5 => ?_) (fun c_5 => ?_)
    · have hf := ite_t hf c_5
      refine lv_iconst (v := (0 : Int32)) hx hb dX6_isBetter_20 (by decide) ?_
      have e90 := Option.some.inj hf
      subst e90
      exact x_zret X Y rfl dX6_isBetter_21
    · have hf := ite_f hf c_5
      refine lv_iconst (v := (1 : Int32)) hx hb dX6_isBetter_16 (by decide) ?_
      refine lv_goto (tgt := 21) hx hb dX6_isBetter_17 (by decide) ?_
      have e90 := Option.some.inj hf
      subst e90
      exact x_zret X Y rfl dX6_isBetter_21
theorem cQ_isBetter {l : Launch} {Γ : Gm} {Aq : Nat → Nat} {qhe : Nat → Int32} {qbi : Nat → Int32} {qhv : Nat → Int32} {qwo : Nat → Int32} {qts : Int32} {qbb : Int32} {qbc : Int32} {qbw : Int32} {r0 : Int32} {x1 : Int32} {x2 : Int32} {x3 : Int32} (h : Q_isBetter x1 x2 x3 qbb qbc qbw = some r0) : CI l Γ yX6_isBetter (Cond.code yX6_isBetter cX6_isBetter 4 (some .boolean) :: GW) rmQ_isBetter [.ref (Aq 0), .int x1, .int x2, .int x3] (WQ Γ Aq qhe qbi qhv qwo qts qbb qbc qbw) (WQ Γ Aq qhe qbi qhv qwo qts qbb qbc qbw) r0 := ofBody (Qc := QcI Γ _ _ r0) (by decide) (Nat.le_of_ble_eq_true rfl) (fun p e s m below meth c ls _ X Y hl => bQ_isBetter_e X h Y hl)
theorem dmX6_isBetterV : yX6_isBetter.cls = RX6 ∧ yX6_isBetter.cls ≠ "java/lang/invoke/MethodHandle" ∧ yX6_isBetter.cls ≠ "java/lang/invoke/VarHandle" ∧ (parseMethodDescriptor yX6_isBetter.desc).map (fun d => d.parameters.length) = some 3 := by decide +kernel
theorem cwX6_76 (X : Cx Γ p s m args meth c RX6 cc nL ret w0) (hR : rmQ_isBetter.frames + 1 ≤ R.frames ∧ 8 + (4 + 11) + rmQ_isBetter.locals ≤ R.locals) : CallW R s args RX6 RX6 76 yX6_isBetter cX6_isBetter 4 (some .boolean) (Cond.code yX6_isBetter cX6_isBetter 4 (some .boolean) :: GW) rmQ_isBetter 0 0 3 := cw_V X kw365 kw366 kw367 kw368 kw369 dmX6_isBetterV rfl rfl hR
theorem pfX6_66 (X : Cx Γ p s m args meth c RX6 cc nL ret w0) (Y : Wd Γ w0 s ws H locs) (q0 : Nat) {fs : List Value} (he : ws[q0]? = some (a, .inr (6, fs))) {v : Value} (hn : narrow (tyX6 5) v = v) (hfit : fits (tyX6 5) v = true) (hl : 5 < fs.length) (hw : ws.set q0 (a, .inr (6, fs.set 5 v)) = ws') (hdg : decode cc pc = .ok (.putfield 66, 3)) (kk : ∀ (H1 : Heap) (locs1 : List Loc), Wd Γ w0 s ws' H1 locs1 → W p l e R s m args below meth c H1 locs1 cells slots Q (F0 m (pc + 3) ls rest)) : W p l e R s m args below meth c H locs cells slots Q (F0 m pc ls (v :: .ref a :: rest)) := x_put X Y iX6 tyX6 tyX6_ok nmX6 rfl 5 (by decide) rfl kw364 rfl q0 he hn hfit hl hw hdg kk
theorem pfX6_79 (X : Cx Γ p s m args meth c RX6 cc nL ret w0) (Y : Wd Γ w0 s ws H locs) (q0 : Nat) {fs : List Value} (he : ws[q0]? = some (a, .inr (6, fs))) {v : Value} (hn : narrow (tyX6 6) v = v) (hfit : fits (tyX6 6) v = true) (hl : 6 < fs.length) (hw : ws.set q0 (a, .inr (6, fs.set 6 v)) = ws') (hdg : decode cc pc = .ok (.putfield 79, 3)) (kk : ∀ (H1 : Heap) (locs1 : List Loc), Wd Γ w0 s ws' H1 locs1 → W p l e R s m args below meth c H1 locs1 cells slots Q (F0 m (pc + 3) ls rest)) : W p l e R s m args below meth c H locs cells slots Q (F0 m pc ls (v :: .ref a :: rest)) := x_put X Y iX6 tyX6 tyX6_ok nmX6 rfl 6 (by decide) rfl kw363 rfl q0 he hn hfit hl hw hdg kk
theorem pfX6_82 (X : Cx Γ p s m args meth c RX6 cc nL ret w0) (Y : Wd Γ w0 s ws H locs) (q0 : Nat) {fs : List Value} (he : ws[q0]? = some (a, .inr (6, fs))) {v : Value} (hn : narrow (tyX6 7) v = v) (hfit : fits (tyX6 7) v = true) (hl : 7 < fs.length) (hw : ws.set q0 (a, .inr (6, fs.set 7 v)) = ws') (hdg : decode cc pc = .ok (.putfield 82, 3)) (kk : ∀ (H1 : Heap) (locs1 : List Loc), Wd Γ w0 s ws' H1 locs1 → W p l e R s m args below meth c H1 locs1 cells slots Q (F0 m (pc + 3) ls rest)) : W p l e R s m args below meth c H locs cells slots Q (F0 m pc ls (v :: .ref a :: rest)) := x_put X Y iX6 tyX6 tyX6_ok nmX6 rfl 7 (by decide) rfl kw362 rfl q0 he hn hfit hl hw hdg kk
def rmQ_keepIfBetter : Room := { frames := 1, cells := 0, slots := 0, locals := 23 }
def Q_keepIfBetter_19 (x1 : Int32) (x2 : Int32) (x3 : Int32) (qbb : Int32) (qbc : Int32) (qbw : Int32) : Option (Int32 × Int32 × Int32) := some (x1, x2, x3)
set_option maxHeartbeats 4000000 in
set_option maxRecDepth 100000 in
theorem bQ_keepIfBetter_19 {Aq : Nat → Nat} {qhe : Nat → Int32} {qbi : Nat → Int32} {qhv : Nat → Int32} {qwo : Nat → Int32} {qts : Int32} {qbb : Int32} {qbc : Int32} {qbw : Int32} {qbb_z : Int32} {qbc_z : Int32} {qbw_z : Int32} {x1 : Int32} {x2 : Int32} {x3 : Int32} (X : Cx Γ p s m args meth c RX6 cX6_keepIfBetter 4 none w0) (hf : Q_keepIfBetter_19 x1 x2 x3 qbb qbc qbw = some (qbb_z, qbc_z, qbw_z)) (Y : Wd Γ w0 s (WQ Γ Aq qhe qbi qhv qwo qts qbb qbc qbw) H locs) (hl : lv_has ls 4 [(0, .ref (Aq 0)), (1, .int x1), (2, .int x2), (3, .int x3)]) : W p l e rmQ_keepIfBetter s m args below meth c H locs 0 0 (EV Γ below args s w0 (WQ Γ Aq qhe qbi qhv qwo qts qbb_z qbc_z qbw_z)) (F0 m 19 ls []) := by
  have hx := X.1
  have hb := X.2.1
  refine lv_aload_n hx hb dX6_keepIfBetter_19 rfl (lv_at hl 0 rfl) ?_
  refine lv_iload_n hx hb dX6_keepIfBetter_20 rfl (lv_at hl 1 rfl) ?_
  refine pfX6_66 X Y 0 rfl rfl rfl (Nat.le_of_ble_eq_true rfl) (ws' := (WQ Γ Aq qhe qbi qhv qwo qts x1 qbc qbw)) rfl dX6_keepIfBetter_21 (fun H locs Y => ?_)
  refine lv_aload_n hx hb dX6_keepIfBetter_24 rfl (lv_at hl 0 rfl) ?_
  refine lv_iload_n hx hb dX6_keepIfBetter_25 rfl (lv_at hl 2 rfl) ?_
  refine pfX6_79 X Y 0 rfl rfl rfl (Nat.le_of_ble_eq_true rfl) (ws' := (WQ Γ Aq qhe qbi qhv qwo qts x1 x2 qbw)) rfl dX6_keepIfBetter_26 (fun H locs Y => ?_)
  refine lv_aload_n hx hb dX6_keepIfBetter_29 rfl (lv_at hl 0 rfl) ?_
  refine lv_iload_n hx hb dX6_keepIfBetter_30 rfl (lv_at hl 3 rfl) ?_
  refine pfX6_82 X Y 0 rfl rfl rfl (Nat.le_of_ble_eq_true rfl) (ws' := (WQ Γ Aq qhe qbi qhv qwo qts x1 x2 x3)) rfl dX6_keepIfBetter_31 (fun H locs Y => ?_)
  obtain ⟨e90, e91, e92⟩ := sj3 hf
  subst e90
  subst e91
  subst e92
  exact x_vret X Y dX6_keepIfBetter_34
def Q_keepIfBetter (x1 : Int32) (x2 : Int32) (x3 : Int32) (qbb : Int32) (qbc : Int32) (qbw : Int32) : Option (Int32 × Int32 × Int32) := if qbb = (-1 : Int32) then (Q_keepIfBetter_19 x1 x2 x3 qbb qbc qbw) else (bd1 (Q_isBetter x1 x2 x3 qbb qbc qbw) (fun (r_2 : Int32) => if r_2 = 0 then (some (qbb, qbc, qbw)) else (Q_keepIfBetter_19 x1 x2 x3 qbb qbc qbw)))
set_option maxHeartbeats 4000000 in
set_option maxRecDepth 100000 in
theorem bQ_keepIfBetter_e {Aq : Nat → Nat} {qhe : Nat → Int32} {qbi : Nat → Int32} {qhv : Nat → Int32} {qwo : Nat → Int32} {qts : Int32} {qbb : Int32} {qbc : Int32} {qbw : Int32} {qbb_z : Int32} {qbc_z : Int32} {qbw_z : Int32} {x1 : Int32} {x2 : Int32} {x3 : Int32} (X : Cx Γ p s m args meth c RX6 cX6_keepIfBetter 4 none w0) (hf : Q_keepIfBetter x1 x2 x3 qbb qbc qbw = some (qbb_z, qbc_z, qbw_z)) (Y : Wd Γ w0 s (WQ Γ Aq qhe qbi qhv qwo qts qbb qbc qbw) H locs) (hl : lv_has ls 4 [(0, .ref (Aq 0)), (1, .int x1), (2, .int x2), (3, .int x3)]) : W p l e rmQ_keepIfBetter s m args below meth c H locs 0 0 (EV Γ below args s w0 (WQ Γ Aq qhe qbi qhv qwo qts qbb_z qbc_z qbw_z)) (F0 m 0 ls []) := by
  have hx := X.1
  have hb := X.2.1
  refine lv_aload_n hx hb dX6_keepIfBetter_0 rfl (lv_at hl 0 rfl) ?_
  refine gfX6_66 X Y (v := .int qbb) 0 rfl rfl dX6_keepIfBetter_1 ?_
  refine lv_iconst (v := (-1 : Int32)) hx hb dX6_keepIfBetter_4 (by decide) ?_
  refine lv_icmp_eq (tgt := 19) hx hb dX6_keepIfBetter_5 (by decide) (fun c_1 => ?_) (fun c_1 => ?_)
  · have hf := ite_t hf c_1
    exact bQ_keepIfBetter_19 X hf Y (lv_sub hl [0, 1, 2, 3] rfl)
  · have hf := ite_f hf c_1
    refine lv_aload_n hx hb dX6_keepIfBetter_8 rfl (lv_at hl 0 rfl) ?_
    refine lv_iload_n hx hb dX6_keepIfBetter_9 rfl (lv_at hl 1 rfl) ?_
    refine lv_iload_n hx hb dX6_keepIfBetter_10 rfl (lv_at hl 2 rfl) ?_
    refine lv_iload_n hx hb dX6_keepIfBetter_11 rfl (lv_at hl 3 rfl) ?_
    obtain ⟨r_2, ho_4, hf⟩ := bd1_some hf
    refine t_i Y (bkS Y) (r_V (As := [.int x1, .int x2, .int x3]) (rest := []) X (c_preS X Y) (cQ_isBetter ho_4) (cwX6_76 X (by decide)) (va_recv X.K Y.1 (q := (RX6, TX6, 8)) (q0 := 0) (ci := 6) rfl rfl) rfl hl.1 (Nat.le_of_ble_eq_true rfl) rfl dX6_keepIfBetter_12 ⟨Nat.zero_le _, Nat.zero_le _⟩) (fun H locs Y => ?_)
    refine lv_if_ne (tgt := 19) hx hb dX6_keepIfBetter_15 (by decide) (fun c_3 => ?_) (fun c_3 => ?_)
    · have hf := ite_f hf c_3
      exact bQ_keepIfBetter_19 X hf Y (lv_sub hl [0, 1, 2, 3] rfl)
    · have hf := ite_t hf c_3
      obtain ⟨e90, e91, e92⟩ := sj3 hf
      subst e90
      subst e91
      subst e92
      exact x_vret X Y dX6_keepIfBetter_18
theorem cQ_keepIfBetter {l : Launch} {Γ : Gm} {Aq : Nat → Nat} {qhe : Nat → Int32} {qbi : Nat → Int32} {qhv : Nat → Int32} {qwo : Nat → Int32} {qts : Int32} {qbb : Int32} {qbc : Int32} {qbw : Int32} {qbb_z : Int32} {qbc_z : Int32} {qbw_z : Int32} {x1 : Int32} {x2 : Int32} {x3 : Int32} (h : Q_keepIfBetter x1 x2 x3 qbb qbc qbw = some (qbb_z, qbc_z, qbw_z)) : CV l Γ yX6_keepIfBetter (Cond.code yX6_keepIfBetter cX6_keepIfBetter 4 none :: GW) rmQ_keepIfBetter [.ref (Aq 0), .int x1, .int x2, .int x3] (WQ Γ Aq qhe qbi qhv qwo qts qbb qbc qbw) (WQ Γ Aq qhe qbi qhv qwo qts qbb_z qbc_z qbw_z) := ofBody (Qc := QcV Γ _ _) (by decide) (Nat.le_of_ble_eq_true rfl) (fun p e s m below meth c ls _ X Y hl => bQ_keepIfBetter_e X h Y hl)
theorem gfX6_18 (X : Cx Γ p s m args meth c RX6 cc nL ret w0) (Y : Wd Γ w0 s ws H locs) {v : Value} (q0 : Nat) {fs : List Value} (he : ws[q0]? = some (a, .inr (6, fs))) (hv : fs[2]? = some v) (hdg : decode cc pc = .ok (.getfield 18, 3)) (kk : W p l e R s m args below meth c H locs cells slots Q (F0 m (pc + 3) ls (v :: rest))) : W p l e R s m args below meth c H locs cells slots Q (F0 m pc ls (.ref a :: rest)) := x_get X Y iX6 rfl 2 (by decide) rfl kw370 q0 he hv hdg kk
theorem gfX6_63 (X : Cx Γ p s m args meth c RX6 cc nL ret w0) (Y : Wd Γ w0 s ws H locs) {v : Value} (q0 : Nat) {fs : List Value} (he : ws[q0]? = some (a, .inr (6, fs))) (hv : fs[4]? = some v) (hdg : decode cc pc = .ok (.getfield 63, 3)) (kk : W p l e R s m args below meth c H locs cells slots Q (F0 m (pc + 3) ls (v :: rest))) : W p l e R s m args below meth c H locs cells slots Q (F0 m pc ls (.ref a :: rest)) := x_get X Y iX6 rfl 4 (by decide) rfl kw371 q0 he hv hdg kk
theorem gfX6_15 (X : Cx Γ p s m args meth c RX6 cc nL ret w0) (Y : Wd Γ w0 s ws H locs) {v : Value} (q0 : Nat) {fs : List Value} (he : ws[q0]? = some (a, .inr (6, fs))) (hv : fs[1]? = some v) (hdg : decode cc pc = .ok (.getfield 15, 3)) (kk : W p l e R s m args below meth c H locs cells slots Q (F0 m (pc + 3) ls (v :: rest))) : W p l e R s m args below meth c H locs cells slots Q (F0 m pc ls (.ref a :: rest)) := x_get X Y iX6 rfl 1 (by decide) rfl kw372 q0 he hv hdg kk
theorem gfX6_21 (X : Cx Γ p s m args meth c RX6 cc nL ret w0) (Y : Wd Γ w0 s ws H locs) {v : Value} (q0 : Nat) {fs : List Value} (he : ws[q0]? = some (a, .inr (6, fs))) (hv : fs[3]? = some v) (hdg : decode cc pc = .ok (.getfield 21, 3)) (kk : W p l e R s m args below meth c H locs cells slots Q (F0 m (pc + 3) ls (v :: rest))) : W p l e R s m args below meth c H locs cells slots Q (F0 m pc ls (.ref a :: rest)) := x_get X Y iX6 rfl 3 (by decide) rfl kw373 q0 he hv hdg kk
theorem dmX6_keepIfBetterV : yX6_keepIfBetter.cls = RX6 ∧ yX6_keepIfBetter.cls ≠ "java/lang/invoke/MethodHandle" ∧ yX6_keepIfBetter.cls ≠ "java/lang/invoke/VarHandle" ∧ (parseMethodDescriptor yX6_keepIfBetter.desc).map (fun d => d.parameters.length) = some 3 := by decide +kernel
theorem cwX6_73 (X : Cx Γ p s m args meth c RX6 cc nL ret w0) (hR : rmQ_keepIfBetter.frames + 1 ≤ R.frames ∧ 8 + (4 + 11) + rmQ_keepIfBetter.locals ≤ R.locals) : CallW R s args RX6 RX6 73 yX6_keepIfBetter cX6_keepIfBetter 4 none (Cond.code yX6_keepIfBetter cX6_keepIfBetter 4 none :: GW) rmQ_keepIfBetter 0 0 3 := cw_V X kw374 kw375 kw376 kw368 kw377 dmX6_keepIfBetterV rfl rfl hR
theorem cwX6_53 (X : Cx Γ p s m args meth c RX6 cc nL ret w0) (hR : rmX_within.frames + 1 ≤ R.frames ∧ 8 + (3 + 11) + rmX_within.locals ≤ R.locals) : va_CN R s args RX6 53 yX11_within "ThrownOver" cX11_within 3 (some .boolean) (Cond.code yX11_within cX11_within 3 (some .boolean) :: GW) rmX_within 0 0 3 ∧ (Cond.static yX11_within).before args s = true ∧ True := cw_SN X kw378 kw219 kw220 kw221 dmX11_withinS rfl rfl hR
def rmQ_consider : Room := { frames := 2, cells := 0, slots := 0, locals := 46 }
def Q_consider (x1 : Int32) (x2 : Int32) (x3 : Int32) (qbi : Nat → Int32) (qhv : Nat → Int32) (qwo : Nat → Int32) (qts : Int32) (qbb : Int32) (qbc : Int32) (qbw : Int32) : Option (Int32 × Int32 × Int32) := bnd ((9 : Int32) + x2) (fun (x5_1 : Int32) => bnd ((18 : Int32) + x3) (fun (x6_2 : Int32) => bd1 (X_within x1 (0 : Int32) (8 : Int32)) (fun (r_3 : Int32) => if r_3 = 0 then (some (qbb, qbc, qbw)) else (bd1 (X_within x5_1 (9 : Int32) (17 : Int32)) (fun (r_5 : Int32) => if r_5 = 0 then (some (qbb, qbc, qbw)) else (bd1 (X_within x6_2 (18 : Int32) (26 : Int32)) (fun (r_7 : Int32) => if r_7 = 0 then (some (qbb, qbc, qbw)) else (ck (inb x1 27) (ck (inb x5_1 27) (ck (inb x6_2 27) (if qts ≤ (((qhv x1.toNatClampNeg) + (qhv x5_1.toNatClampNeg)) + (qhv x6_2.toNatClampNeg)) then (ck (inb x1 27) (ck (inb x5_1 27) (ck (inb x6_2 27) (ck (inb x1 27) (ck (inb x5_1 27) (ck (inb x6_2 27) (bd3 (Q_keepIfBetter (((qbi x1.toNatClampNeg) ||| (qbi x5_1.toNatClampNeg)) ||| (qbi x6_2.toNatClampNeg)) ((x1 + x2) + x3) (((qwo x1.toNatClampNeg) + (qwo x5_1.toNatClampNeg)) + (qwo x6_2.toNatClampNeg)) qbb qbc qbw) (fun (qbb_19 : Int32) (qbc_20 : Int32) (qbw_21 : Int32) => some (qbb_19, qbc_20, qbw_21))))))))) else (some (qbb, qbc, qbw)))))))))))))
set_option maxHeartbeats 4000000 in
set_option maxRecDepth 100000 in
theorem bQ_consider_e {Aq : Nat → Nat} {qhe : Nat → Int32} {qbi : Nat → Int32} {qhv : Nat → Int32} {qwo : Nat → Int32} {qts : Int32} {qbb : Int32} {qbc : Int32} {qbw : Int32} {qbb_z : Int32} {qbc_z : Int32} {qbw_z : Int32} {x1 : Int32} {x2 : Int32} {x3 : Int32} (X : Cx Γ p s m args meth c RX6 cX6_consider 7 none w0) (hf : Q_consider x1 x2 x3 qbi qhv qwo qts qbb qbc qbw = some (qbb_z, qbc_z, qbw_z)) (Y : Wd Γ w0 s (WQ Γ Aq qhe qbi qhv qwo qts qbb qbc qbw) H locs) (hl : lv_has ls 7 [(0, .ref (Aq 0)), (1, .int x1), (2, .int x2), (3, .int x3)]) : W p l e rmQ_consider s m args below meth c H locs 0 0 (EV Γ below args s w0 (WQ Γ Aq qhe qbi qhv qwo qts qbb_z qbc_z qbw_z)) (F0 m 0 ls []) := by
  have hx := X.1
  have hb := X.2.1
  refine lv_iload_n hx hb dX6_consider_0 rfl (lv_at hl 1 rfl) ?_
  refine lv_istore (lv' := [(4, .int x1), (0, .ref (Aq 0)), (1, .int x1), (2, .int x2), (3, .int x3)]) hx hb dX6_consider_1 hl (by decide) rfl (fun ls hl => ?_)
  refine lv_bipush (v := (9 : Int32)) hx hb dX6_consider_3 (by decide) ?_
  refine lv_iload_n hx hb dX6_consider_5 rfl (lv_at hl 3 rfl) ?_
  refine lv_iadd hx hb dX6_consider_6 ?_
  refine lv_topi (fun x5_1 e_x5_1 => ?_)
  have hf := bnd_eq hf e_x5_1
  refine lv_istore (lv' := [(5, .int x5_1), (4, .int x1), (0, .ref (Aq 0)), (1, .int x1), (2, .int x2), (3, .int x3)]) hx hb dX6_consider_7 hl (by decide) rfl (fun ls hl => ?_)
  refine lv_bipush (v := (18 : Int32)) hx hb dX6_consider_9 (by decide) ?_
  refine lv_iload_n hx hb dX6_consider_11 rfl (lv_at hl 5 rfl) ?_
  refine lv_iadd hx hb dX6_consider_12 ?_
  refine lv_topi (fun x6_2 e_x6_2 => ?_)
  have hf := bnd_eq hf e_x6_2
  refine lv_istore (lv' := [(6, .int x6_2), (5, .int x5_1), (4, .int x1), (0, .ref (Aq 0)), (1, .int x1), (2, .int x2), (3, .int x3)]) hx hb dX6_consider_13 hl (by decide) rfl (fun ls hl => ?_)
  refine lv_iload hx hb dX6_consider_15 (lv_at hl 2 rfl) ?_
  refine lv_iconst (v := (0 : Int32)) hx hb dX6_consider_17 (by decide) ?_
  refine lv_bipush (v := (8 : Int32)) hx hb dX6_consider_18 (by decide) ?_
  obtain ⟨r_3, ho_25, hf⟩ := bd1_some hf
  refine t_i Y (bk0 Y) (r_SN (As := [.int x1, .int (0 : Int32), .int (8 : Int32)]) (rest := []) X (c_pre0 X Y) (cX_within ho_25) (cwX6_53 X (by decide)) rfl hl.1 (Nat.le_of_ble_eq_true rfl) rfl dX6_consider_20 ⟨Nat.zero_le _, Nat.zero_le _⟩) (fun H locs Y => ?_)
  refine lv_if_eq (tgt := 50) hx hb dX6_consider_23 (by decide) (fun c_4 => ?_) (fun c_4 => ?_)
  · have hf := ite_t hf c_4
    obtain ⟨e90, e91, e92⟩ := sj3 hf
    subst e90
    subst e91
    subst e92
    exact x_vret X Y dX6_consider_50
  · have hf := ite_f hf c_4
    refine lv_iload hx hb dX6_consider_26 (lv_at hl 1 rfl) ?_
    refine lv_bipush (v := (9 : Int32)) hx hb dX6_consider_28 (by decide) ?_
    refine lv_bipush (v := (17 : Int32)) hx hb dX6_consider_30 (by decide) ?_
    obtain ⟨r_5, ho_24, hf⟩ := bd1_some hf
    refine t_i Y (bk0 Y) (r_SN (As := [.int x5_1, .int (9 : Int32), .int (17 : Int32)]) (rest := []) X (c_pre0 X Y) (cX_within ho_24) (cwX6_53 X (by decide)) rfl hl.1 (Nat.le_of_ble_eq_true rfl) rfl dX6_consider_32 ⟨Nat.zero_le _, Nat.zero_le _⟩) (fun H locs Y => ?_)
    refine lv_if_eq (tgt := 50) hx hb dX6_consider_35 (by decide) (fun c_6 => ?_) (fun c_6 => ?_)
    · have hf := ite_t hf c_6
      obtain ⟨e90, e91, e92⟩ := sj3 hf
      subst e90
      subst e91
      subst e92
      exact x_vret X Y dX6_consider_50
    · have hf := ite_f hf c_6
      refine lv_iload hx hb dX6_consider_38 (lv_at hl 0 rfl) ?_
      refine lv_bipush (v := (18 : Int32)) hx hb dX6_consider_40 (by decide) ?_
      refine lv_bipush (v := (26 : Int32)) hx hb dX6_consider_42 (by decide) ?_
      obtain ⟨r_7, ho_23, hf⟩ := bd1_some hf
      refine t_i Y (bk0 Y) (r_SN (As := [.int x6_2, .int (18 : Int32), .int (26 : Int32)]) (rest := []) X (c_pre0 X Y) (cX_within ho_23) (cwX6_53 X (by decide)) rfl hl.1 (Nat.le_of_ble_eq_true rfl) rfl dX6_consider_44 ⟨Nat.zero_le _, Nat.zero_le _⟩) (fun H locs Y => ?_)
      refine lv_if_ne (tgt := 51) hx hb dX6_consider_47 (by decide) (fun c_8 => ?_) (fun c_8 => ?_)
      · have hf := ite_f hf c_8
        refine lv_aload_n hx hb dX6_consider_51 rfl (lv_at hl 3 rfl) ?_
        refine gfX6_18 X Y (v := .ref (Aq 3)) 0 rfl rfl dX6_consider_52 ?_
        refine lv_iload hx hb dX6_consider_55 (lv_at hl 2 rfl) ?_
        obtain ⟨hi_9, hf⟩ := ck_some hf
        refine x_iald X Y 3 rfl rfl hi_9 dX6_consider_57 ?_
        refine lv_aload_n hx hb dX6_consider_58 rfl (lv_at hl 3 rfl) ?_
        refine gfX6_18 X Y (v := .ref (Aq 3)) 0 rfl rfl dX6_consider_59 ?_
        refine lv_iload hx hb dX6_consider_62 (lv_at hl 1 rfl) ?_
        obtain ⟨hi_10, hf⟩ := ck_some hf
        refine x_iald X Y 3 rfl rfl hi_10 dX6_consider_64 ?_
        refine lv_iadd hx hb dX6_consider_65 ?_
        refine lv_aload_n hx hb dX6_consider_66 rfl (lv_at hl 3 rfl) ?_
        refine gfX6_18 X Y (v := .ref (Aq 3)) 0 rfl rfl dX6_consider_67 ?_
        refine lv_iload hx hb dX6_consider_70 (lv_at hl 0 rfl) ?_
        obtain ⟨hi_11, hf⟩ := ck_some hf
        refine x_iald X Y 3 rfl rfl hi_11 dX6_consider_72 ?_
        refine lv_iadd hx hb dX6_consider_73 ?_
        refine lv_aload_n hx hb dX6_consider_74 rfl (lv_at hl 3 rfl) ?_
        refine gfX6_63 X Y (v := .int qts) 0 rfl rfl dX6_consider_75 ?_
        refine lv_icmp_ge (tgt := 82) hx hb dX6_consider_78 (by decide) (fun c_12 => ?_) (fun c_12 => ?_)
        · have hf := ite_t hf c_12
          refine lv_aload_n hx hb dX6_consider_82 rfl (lv_at hl 3 rfl) ?_
          refine lv_aload_n hx hb dX6_consider_83 rfl (lv_at hl 3 rfl) ?_
          refine gfX6_15 X Y (v := .ref (Aq 2)) 0 rfl rfl dX6_consider_84 ?_
          refine lv_iload hx hb dX6_consider_87 (lv_at hl 2 rfl) ?_
          obtain ⟨hi_13, hf⟩ := ck_some hf
          refine x_iald X Y 2 rfl rfl hi_13 dX6_consider_89 ?_
          refine lv_aload_n hx hb dX6_consider_90 rfl (lv_at hl 3 rfl) ?_
          refine gfX6_15 X Y (v := .ref (Aq 2)) 0 rfl rfl dX6_consider_91 ?_
          refine lv_iload hx hb dX6_consider_94 (lv_at hl 1 rfl) ?_
          obtain ⟨hi_14, hf⟩ := ck_some hf
          refine x_iald X Y 2 rfl rfl hi_14 dX6_consider_96 ?_
          refine lv_ior hx hb dX6_consider_97 ?_
          refine lv_aload_n hx hb dX6_consider_98 rfl (lv_at hl 3 rfl) ?_
          refine gfX6_15 X Y (v := .ref (Aq 2)) 0 rfl rfl dX6_consider_99 ?_
          refine lv_iload hx hb dX6_consider_102 (lv_at hl 0 rfl) ?_
          obtain ⟨hi_15, hf⟩ := ck_some hf
          refine x_iald X Y 2 rfl rfl hi_15 dX6_consider_104 ?_
          refine lv_ior hx hb dX6_consider_105 ?_
          refine lv_iload_n hx hb dX6_consider_106 rfl (lv_at hl 4 rfl) ?_
          refine lv_iload_n hx hb dX6_consider_107 rfl (lv_at hl 5 rfl) ?_
          refine lv_iadd hx hb dX6_consider_108 ?_
          refine lv_iload_n hx hb dX6_consider_109 rfl (lv_at hl 6 rfl) ?_
          refine lv_iadd hx hb dX6_consider_110 ?_
          refine lv_aload_n hx hb dX6_consider_111 rfl (lv_at hl 3 rfl) ?_
          refine gfX6_21 X Y (v := .ref (Aq 4)) 0 rfl rfl dX6_consider_112 ?_
          refine lv_iload hx hb dX6_consider_115 (lv_at hl 2 rfl) ?_
          obtain ⟨hi_16, hf⟩ := ck_some hf
          refine x_iald X Y 4 rfl rfl hi_16 dX6_consider_117 ?_
          refine lv_aload_n hx hb dX6_consider_118 rfl (lv_at hl 3 rfl) ?_
          refine gfX6_21 X Y (v := .ref (Aq 4)) 0 rfl rfl dX6_consider_119 ?_
          refine lv_iload hx hb dX6_consider_122 (lv_at hl 1 rfl) ?_
          obtain ⟨hi_17, hf⟩ := ck_some hf
          refine x_iald X Y 4 rfl rfl hi_17 dX6_consider_124 ?_
          refine lv_iadd hx hb dX6_consider_125 ?_
          refine lv_aload_n hx hb dX6_consider_126 rfl (lv_at hl 3 rfl) ?_
          refine gfX6_21 X Y (v := .ref (Aq 4)) 0 rfl rfl dX6_consider_127 ?_
          refine lv_iload hx hb dX6_consider_130 (lv_at hl 0 rfl) ?_
          obtain ⟨hi_18, hf⟩ := ck_some hf
          refine x_iald X Y 4 rfl rfl hi_18 dX6_consider_132 ?_
          refine lv_iadd hx hb dX6_consider_133 ?_
          obtain ⟨qbb_19, qbc_20, qbw_21, ho_22, hf⟩ := bd3_some hf
          refine t_v Y (bkS Y) (r_V (As := [.int (((qbi x1.toNatClampNeg) ||| (qbi x5_1.toNatClampNeg)) ||| (qbi x6_2.toNatClampNeg)), .int ((x1 + x2) + x3), .int (((qwo x1.toNatClampNeg) + (qwo x5_1.toNatClampNeg)) + (qwo x6_2.toNatClampNeg))]) (rest := []) X (c_preS X Y) (cQ_keepIfBetter ho_22) (cwX6_73 X (by decide)) (va_recv X.K Y.1 (q := (RX6, TX6, 8)) (q0 := 0) (ci := 6) rfl rfl) rfl hl.1 (Nat.le_of_ble_eq_true rfl) rfl dX6_consider_134 ⟨Nat.zero_le _, Nat.zero_le _⟩) (fun H locs Y => ?_)
          obtain ⟨e90, e91, e92⟩ := sj3 hf
          subst e90
          subst e91
          subst e92
          exact x_vret X Y dX6_consider_137
        · have hf := ite_f hf c_12
          obtain ⟨e90, e91, e92⟩ := sj3 hf
          subst e90
          subst e91
          subst e92
          exact x_vret X Y dX6_consider_81
      · have hf := ite_t hf c_8
        obtain ⟨e90, e91, e92⟩ := sj3 hf
        subst e90
        subst e91
        subst e92
        exact x_vret X Y dX6_consider_50
theorem cQ_consider {l : Launch} {Γ : Gm} {Aq : Nat → Nat} {qhe : Nat → Int32} {qbi : Nat → Int32} {qhv : Nat → Int32} {qwo : Nat → Int32} {qts : Int32} {qbb : Int32} {qbc : Int32} {qbw : Int32} {qbb_z : Int32} {qbc_z : Int32} {qbw_z : Int32} {x1 : Int32} {x2 : Int32} {x3 : Int32} (h : Q_consider x1 x2 x3 qbi qhv qwo qts qbb qbc qbw = some (qbb_z, qbc_z, qbw_z)) : CV l Γ yX6_consider (Cond.code yX6_consider cX6_consider 7 none :: GW) rmQ_consider [.ref (Aq 0), .int x1, .int x2, .int x3] (WQ Γ Aq qhe qbi qhv qwo qts qbb qbc qbw) (WQ Γ Aq qhe qbi qhv qwo qts qbb_z qbc_z qbw_z) := ofBody (Qc := QcV Γ _ _) (by decide) (Nat.le_of_ble_eq_true rfl) (fun p e s m below meth c ls _ X Y hl => bQ_consider_e X h Y hl)
theorem gfX6_60 (X : Cx Γ p s m args meth c RX6 cc nL ret w0) (Y : Wd Γ w0 s ws H locs) {v : Value} (q0 : Nat) {fs : List Value} (he : ws[q0]? = some (a, .inr (1, fs))) (hv : fs[1]? = some v) (hdg : decode cc pc = .ok (.getfield 60, 3)) (kk : W p l e R s m args below meth c H locs cells slots Q (F0 m (pc + 3) ls (v :: rest))) : W p l e R s m args below meth c H locs cells slots Q (F0 m pc ls (.ref a :: rest)) := x_getN X Y iX1 rfl 1 (by decide) rfl kw379 q0 he hv hdg kk
theorem pfX6_63 (X : Cx Γ p s m args meth c RX6 cc nL ret w0) (Y : Wd Γ w0 s ws H locs) (q0 : Nat) {fs : List Value} (he : ws[q0]? = some (a, .inr (6, fs))) {v : Value} (hn : narrow (tyX6 4) v = v) (hfit : fits (tyX6 4) v = true) (hl : 4 < fs.length) (hw : ws.set q0 (a, .inr (6, fs.set 4 v)) = ws') (hdg : decode cc pc = .ok (.putfield 63, 3)) (kk : ∀ (H1 : Heap) (locs1 : List Loc), Wd Γ w0 s ws' H1 locs1 → W p l e R s m args below meth c H1 locs1 cells slots Q (F0 m (pc + 3) ls rest)) : W p l e R s m args below meth c H locs cells slots Q (F0 m pc ls (v :: .ref a :: rest)) := x_put X Y iX6 tyX6 tyX6_ok nmX6 rfl 4 (by decide) rfl kw371 rfl q0 he hn hfit hl hw hdg kk
theorem cwX6_57 (X : Cx Γ p s m args meth c RX6 cc nL ret w0) (hR : rmC_total.frames + 1 ≤ R.frames ∧ 8 + (5 + 11) + rmC_total.locals ≤ R.locals) : CallW R s args RX6 RX1 57 yX1_total cX1_total 5 (some .int) (Cond.code yX1_total cX1_total 5 (some .int) :: GW) rmC_total 0 0 2 := cw_V X kw380 kw253 kw254 kw228 kw255 dmX1_totalV rfl rfl hR
theorem gfX6_9 (X : Cx Γ p s m args meth c RX6 cc nL ret w0) (Y : Wd Γ w0 s ws H locs) {v : Value} (q0 : Nat) {fs : List Value} (he : ws[q0]? = some (a, .inr (6, fs))) (hv : fs[0]? = some v) (hdg : decode cc pc = .ok (.getfield 9, 3)) (kk : W p l e R s m args below meth c H locs cells slots Q (F0 m (pc + 3) ls (v :: rest))) : W p l e R s m args below meth c H locs cells slots Q (F0 m pc ls (.ref a :: rest)) := x_get X Y iX6 rfl 0 (by decide) rfl kw381 q0 he hv hdg kk
theorem dmX6_considerV : yX6_consider.cls = RX6 ∧ yX6_consider.cls ≠ "java/lang/invoke/MethodHandle" ∧ yX6_consider.cls ≠ "java/lang/invoke/VarHandle" ∧ (parseMethodDescriptor yX6_consider.desc).map (fun d => d.parameters.length) = some 3 := by decide +kernel
theorem cwX6_69 (X : Cx Γ p s m args meth c RX6 cc nL ret w0) (hR : rmQ_consider.frames + 1 ≤ R.frames ∧ 8 + (7 + 11) + rmQ_consider.locals ≤ R.locals) : CallW R s args RX6 RX6 69 yX6_consider cX6_consider 7 none (Cond.code yX6_consider cX6_consider 7 none :: GW) rmQ_consider 0 0 3 := cw_V X kw382 kw383 kw384 kw368 kw385 dmX6_considerV rfl rfl hR
def rmQ_choose : Room := { frames := 3, cells := 0, slots := 0, locals := 72 }
def Q_choose_53 (rc25 : Int32 → (Nat → Int32) → (Nat → Int32) → (Nat → Int32) → (Nat → Int32) → Int32 → Int32 → Int32 → Int32 → Int32 → Int32 → (Nat → Int32) → Option (Int32 × Int32 × Int32 × Int32 × Int32)) (rc39 : Int32 → Int32 → (Nat → Int32) → (Nat → Int32) → (Nat → Int32) → (Nat → Int32) → Int32 → Int32 → Int32 → Int32 → Int32 → Int32 → (Nat → Int32) → Option (Int32 × Int32 × Int32 × Int32 × Int32)) (rc53 : Int32 → Int32 → Int32 → (Nat → Int32) → (Nat → Int32) → (Nat → Int32) → (Nat → Int32) → Int32 → Int32 → Int32 → Int32 → Int32 → Int32 → (Nat → Int32) → Option (Int32 × Int32 × Int32 × Int32 × Int32)) (x4 : Int32) (x5 : Int32) (x6 : Int32) (qhe : Nat → Int32) (qbi : Nat → Int32) (qhv : Nat → Int32) (qwo : Nat → Int32) (qts : Int32) (qbb : Int32) (qbc : Int32) (qbw : Int32) (cca : Int32) (csi : Int32) (cfa : Nat → Int32) : Option (Int32 × Int32 × Int32 × Int32 × Int32) := if (qhe 2) < x6 then (bnd (x5 + (1 : Int32)) (fun (x5_2 : Int32) => rc39 x4 x5_2 qhe qbi qhv qwo qts qbb qbc qbw cca csi cfa)) else (bd3 (Q_consider x4 x5 x6 qbi qhv qwo qts qbb qbc qbw) (fun (qbb_3 : Int32) (qbc_4 : Int32) (qbw_5 : Int32) => bnd (x6 + (1 : Int32)) (fun (x6_6 : Int32) => rc53 x4 x5 x6_6 qhe qbi qhv qwo qts qbb_3 qbc_4 qbw_5 cca csi cfa)))
set_option maxHeartbeats 4000000 in
set_option maxRecDepth 100000 in
theorem bQ_choose_53 {Aq : Nat → Nat} {Ac : Nat → Nat} {qhe : Nat → Int32} {qbi : Nat → Int32} {qhv : Nat → Int32} {qwo : Nat → Int32} {qts : Int32} {qbb : Int32} {qbc : Int32} {qbw : Int32} {csw : Int32} {cca : Int32} {csi : Int32} {cab : Int32} {cun : Int32} {csg : Int32} {cfa : Nat → Int32} {che : Nat → Int32} {cst : Nat → Int32} {qts_z : Int32} {qbb_z : Int32} {qbc_z : Int32} {qbw_z : Int32} {r0 : Int32} {x4 : Int32} {x5 : Int32} {x6 : Int32} {rc25 : Int32 → (Nat → Int32) → (Nat → Int32) → (Nat → Int32) → (Nat → Int32) → Int32 → Int32 → Int32 → Int32 → Int32 → Int32 → (Nat → Int32) → Option (Int32 × Int32 × Int32 × Int32 × Int32)} {rc39 : Int32 → Int32 → (Nat → Int32) → (Nat → Int32) → (Nat → Int32) → (Nat → Int32) → Int32 → Int32 → Int32 → Int32 → Int32 → Int32 → (Nat → Int32) → Option (Int32 × Int32 × Int32 × Int32 × Int32)} {rc53 : Int32 → Int32 → Int32 → (Nat → Int32) → (Nat → Int32) → (Nat → Int32) → (Nat → Int32) → Int32 → Int32 → Int32 → Int32 → Int32 → Int32 → (Nat → Int32) → Option (Int32 × Int32 × Int32 × Int32 × Int32)} (X : Cx Γ p s m args meth c RX6 cX6_choose 7 (some .int) w0) (h25 : ∀ (x4 : Int32) (qhe : Nat → Int32) (qbi : Nat → Int32) (qhv : Nat → Int32) (qwo : Nat → Int32) (qts : Int32) (qbb : Int32) (qbc : Int32) (qbw : Int32) (cca : Int32) (csi : Int32) (cfa : Nat → Int32), rc25 x4 qhe qbi qhv qwo qts qbb qbc qbw cca csi cfa = some (r0, qts_z, qbb_z, qbc_z, qbw_z) → ∀ (H : Heap) (locs : List Loc) (ls : Array Slot), Wd Γ w0 s ((WQ Γ Aq qhe qbi qhv qwo qts qbb qbc qbw) ++ (WC Γ Ac csw cca csi cab cun csg cfa che cst)) H locs → lv_has ls 7 [(0, .ref (Aq 0)), (4, .int x4)] → W p l e rmQ_choose s m args below meth c H locs 0 0 (EI Γ below args s w0 ((WQ Γ Aq qhe qbi qhv qwo qts_z qbb_z qbc_z qbw_z) ++ (WC Γ Ac csw cca csi cab cun csg cfa che cst)) r0) (F0 m 25 ls [])) (h39 : ∀ (x4 : Int32) (x5 : Int32) (qhe : Nat → Int32) (qbi : Nat → Int32) (qhv : Nat → Int32) (qwo : Nat → Int32) (qts : Int32) (qbb : Int32) (qbc : Int32) (qbw : Int32) (cca : Int32) (csi : Int32) (cfa : Nat → Int32), rc39 x4 x5 qhe qbi qhv qwo qts qbb qbc qbw cca csi cfa = some (r0, qts_z, qbb_z, qbc_z, qbw_z) → ∀ (H : Heap) (locs : List Loc) (ls : Array Slot), Wd Γ w0 s ((WQ Γ Aq qhe qbi qhv qwo qts qbb qbc qbw) ++ (WC Γ Ac csw cca csi cab cun csg cfa che cst)) H locs → lv_has ls 7 [(0, .ref (Aq 0)), (4, .int x4), (5, .int x5)] → W p l e rmQ_choose s m args below meth c H locs 0 0 (EI Γ below args s w0 ((WQ Γ Aq qhe qbi qhv qwo qts_z qbb_z qbc_z qbw_z) ++ (WC Γ Ac csw cca csi cab cun csg cfa che cst)) r0) (F0 m 39 ls [])) (h53 : ∀ (x4 : Int32) (x5 : Int32) (x6 : Int32) (qhe : Nat → Int32) (qbi : Nat → Int32) (qhv : Nat → Int32) (qwo : Nat → Int32) (qts : Int32) (qbb : Int32) (qbc : Int32) (qbw : Int32) (cca : Int32) (csi : Int32) (cfa : Nat → Int32), rc53 x4 x5 x6 qhe qbi qhv qwo qts qbb qbc qbw cca csi cfa = some (r0, qts_z, qbb_z, qbc_z, qbw_z) → ∀ (H : Heap) (locs : List Loc) (ls : Array Slot), Wd Γ w0 s ((WQ Γ Aq qhe qbi qhv qwo qts qbb qbc qbw) ++ (WC Γ Ac csw cca csi cab cun csg cfa che cst)) H locs → lv_has ls 7 [(0, .ref (Aq 0)), (4, .int x4), (5, .int x5), (6, .int x6)] → W p l e rmQ_choose s m args below meth c H locs 0 0 (EI Γ below args s w0 ((WQ Γ Aq qhe qbi qhv qwo qts_z qbb_z qbc_z qbw_z) ++ (WC Γ Ac csw cca csi cab cun csg cfa che cst)) r0) (F0 m 53 ls [])) (hf : Q_choose_53 rc25 rc39 rc53 x4 x5 x6 qhe qbi qhv qwo qts qbb qbc qbw cca csi cfa = some (r0, qts_z, qbb_z, qbc_z, qbw_z)) (Y : Wd Γ w0 s ((WQ Γ Aq qhe qbi qhv qwo qts qbb qbc qbw) ++ (WC Γ Ac csw cca csi cab cun csg cfa che cst)) H locs) (hl : lv_has ls 7 [(0, .ref (Aq 0)), (4, .int x4), (5, .int x5), (6, .int x6)]) : W p l e rmQ_choose s m args below meth c H locs 0 0 (EI Γ below args s w0 ((WQ Γ Aq qhe qbi qhv qwo qts_z qbb_z qbc_z qbw_z) ++ (WC Γ Ac csw cca csi cab cun csg cfa che cst)) r0) (F0 m 53 ls []) := by
  have hx := X.1
  have hb := X.2.1
  refine lv_iload hx hb dX6_choose_53 (lv_at hl 3 rfl) ?_
  refine lv_aload_n hx hb dX6_choose_55 rfl (lv_at hl 0 rfl) ?_
  refine gfX6_9 X Y (v := .ref (Aq 1)) 0 rfl rfl dX6_choose_56 ?_
  refine lv_iconst (v := (2 : Int32)) hx hb dX6_choose_59 (by decide) ?_
  refine x_iald X Y 1 rfl (j := 2) rfl rfl dX6_choose_60 ?_
  refine lv_icmp_gt (tgt := 80) hx hb dX6_choose_61 (by decide) (fun c_1 => ?_) (fun c_1 => ?_)
  · have hf := ite_t hf c_1
    obtain ⟨x5_2, e_x5_2⟩ : ∃ z : Int32, z = (x5 + (1 : Int32)) := ⟨_, rfl⟩
    have hf := bnd_eq hf e_x5_2
    refine lv_iinc (v := x5_2) (lv' := [(5, .int x5_2), (0, .ref (Aq 0)), (4, .int x4), (6, .int x6)]) hx hb dX6_choose_80 hl (k := 2) rfl (by rw [e_x5_2]; rfl) (by decide) rfl (fun ls hl => ?_)
    refine lv_goto (tgt := 39) hx hb dX6_choose_83 (by decide) ?_
    exact h39 _ _ _ _ _ _ _ _ _ _ _ _ _ hf _ _ _ Y (lv_sub hl [1, 2, 0] rfl)
  · have hf := ite_f hf c_1
    refine lv_aload_n hx hb dX6_choose_64 rfl (lv_at hl 0 rfl) ?_
    refine lv_iload hx hb dX6_choose_65 (lv_at hl 1 rfl) ?_
    refine lv_iload hx hb dX6_choose_67 (lv_at hl 2 rfl) ?_
    refine lv_iload hx hb dX6_choose_69 (lv_at hl 3 rfl) ?_
    obtain ⟨qbb_3, qbc_4, qbw_5, ho_7, hf⟩ := bd3_some hf
    refine t_v Y (bk Y [0, 1, 2, 3, 4] [5, 6, 7, 8] [4, 5, 6, 7, 8, 0, 1, 2, 3] (wr := [(Ac 0, .inr (1, [.int csw, .int cca, .int csi, .int cab, .int cun, .int csg, .ref (Ac 1), .ref (Ac 2), .ref (Ac 3)])), (Ac 1, .inl (Γ.2.1 0, 48, .inl cfa)), (Ac 2, .inl (Γ.2.1 0, 8, .inl che)), (Ac 3, .inl (Γ.2.1 0, 18, .inl cst))]) (ws' := ((WQ Γ Aq qhe qbi qhv qwo qts qbb_3 qbc_4 qbw_5) ++ (WC Γ Ac csw cca csi cab cun csg cfa che cst))) rfl rfl rfl (by decide) rfl rfl) (r_V (As := [.int x4, .int x5, .int x6]) (rest := []) X (c_pre X Y [0, 1, 2, 3, 4] rfl rfl) (cQ_consider ho_7) (cwX6_69 X (by decide)) (va_recv X.K Y.1 (q := (RX6, TX6, 8)) (q0 := 0) (ci := 6) rfl rfl) rfl hl.1 (Nat.le_of_ble_eq_true rfl) rfl dX6_choose_71 ⟨Nat.zero_le _, Nat.zero_le _⟩) (fun H locs Y => ?_)
    obtain ⟨x6_6, e_x6_6⟩ : ∃ z : Int32, z = (x6 + (1 : Int32)) := ⟨_, rfl⟩
    have hf := bnd_eq hf e_x6_6
    refine lv_iinc (v := x6_6) (lv' := [(6, .int x6_6), (0, .ref (Aq 0)), (4, .int x4), (5, .int x5)]) hx hb dX6_choose_74 hl (k := 3) rfl (by rw [e_x6_6]; rfl) (by decide) rfl (fun ls hl => ?_)
    refine lv_goto (tgt := 53) hx hb dX6_choose_77 (by decide) ?_
    exact h53 _ _ _ _ _ _ _ _ _ _ _ _ _ _ hf _ _ _ Y (lv_sub hl [1, 2, 3, 0] rfl)
def Q_choose_L53 (rc25 : Int32 → (Nat → Int32) → (Nat → Int32) → (Nat → Int32) → (Nat → Int32) → Int32 → Int32 → Int32 → Int32 → Int32 → Int32 → (Nat → Int32) → Option (Int32 × Int32 × Int32 × Int32 × Int32)) (rc39 : Int32 → Int32 → (Nat → Int32) → (Nat → Int32) → (Nat → Int32) → (Nat → Int32) → Int32 → Int32 → Int32 → Int32 → Int32 → Int32 → (Nat → Int32) → Option (Int32 × Int32 × Int32 × Int32 × Int32)) : Nat → Int32 → Int32 → Int32 → (Nat → Int32) → (Nat → Int32) → (Nat → Int32) → (Nat → Int32) → Int32 → Int32 → Int32 → Int32 → Int32 → Int32 → (Nat → Int32) → Option (Int32 × Int32 × Int32 × Int32 × Int32)
  | 0, _, _, _, _, _, _, _, _, _, _, _, _, _, _ => none
  | n + 1, x4, x5, x6, qhe, qbi, qhv, qwo, qts, qbb, qbc, qbw, cca, csi, cfa => Q_choose_53 rc25 rc39 (Q_choose_L53 rc25 rc39 n) x4 x5 x6 qhe qbi qhv qwo qts qbb qbc qbw cca csi cfa
theorem lQ_choose_53 {Aq : Nat → Nat} {Ac : Nat → Nat} {csw : Int32} {cab : Int32} {cun : Int32} {csg : Int32} {che : Nat → Int32} {cst : Nat → Int32} {qts_z : Int32} {qbb_z : Int32} {qbc_z : Int32} {qbw_z : Int32} {r0 : Int32} {rc25 : Int32 → (Nat → Int32) → (Nat → Int32) → (Nat → Int32) → (Nat → Int32) → Int32 → Int32 → Int32 → Int32 → Int32 → Int32 → (Nat → Int32) → Option (Int32 × Int32 × Int32 × Int32 × Int32)} {rc39 : Int32 → Int32 → (Nat → Int32) → (Nat → Int32) → (Nat → Int32) → (Nat → Int32) → Int32 → Int32 → Int32 → Int32 → Int32 → Int32 → (Nat → Int32) → Option (Int32 × Int32 × Int32 × Int32 × Int32)} (X : Cx Γ p s m args meth c RX6 cX6_choose 7 (some .int) w0) (h25 : ∀ (x4 : Int32) (qhe : Nat → Int32) (qbi : Nat → Int32) (qhv : Nat → Int32) (qwo : Nat → Int32) (qts : Int32) (qbb : Int32) (qbc : Int32) (qbw : Int32) (cca : Int32) (csi : Int32) (cfa : Nat → Int32), rc25 x4 qhe qbi qhv qwo qts qbb qbc qbw cca csi cfa = some (r0, qts_z, qbb_z, qbc_z, qbw_z) → ∀ (H : Heap) (locs : List Loc) (ls : Array Slot), Wd Γ w0 s ((WQ Γ Aq qhe qbi qhv qwo qts qbb qbc qbw) ++ (WC Γ Ac csw cca csi cab cun csg cfa che cst)) H locs → lv_has ls 7 [(0, .ref (Aq 0)), (4, .int x4)] → W p l e rmQ_choose s m args below meth c H locs 0 0 (EI Γ below args s w0 ((WQ Γ Aq qhe qbi qhv qwo qts_z qbb_z qbc_z qbw_z) ++ (WC Γ Ac csw cca csi cab cun csg cfa che cst)) r0) (F0 m 25 ls [])) (h39 : ∀ (x4 : Int32) (x5 : Int32) (qhe : Nat → Int32) (qbi : Nat → Int32) (qhv : Nat → Int32) (qwo : Nat → Int32) (qts : Int32) (qbb : Int32) (qbc : Int32) (qbw : Int32) (cca : Int32) (csi : Int32) (cfa : Nat → Int32), rc39 x4 x5 qhe qbi qhv qwo qts qbb qbc qbw cca csi cfa = some (r0, qts_z, qbb_z, qbc_z, qbw_z) → ∀ (H : Heap) (locs : List Loc) (ls : Array Slot), Wd Γ w0 s ((WQ Γ Aq qhe qbi qhv qwo qts qbb qbc qbw) ++ (WC Γ Ac csw cca csi cab cun csg cfa che cst)) H locs → lv_has ls 7 [(0, .ref (Aq 0)), (4, .int x4), (5, .int x5)] → W p l e rmQ_choose s m args below meth c H locs 0 0 (EI Γ below args s w0 ((WQ Γ Aq qhe qbi qhv qwo qts_z qbb_z qbc_z qbw_z) ++ (WC Γ Ac csw cca csi cab cun csg cfa che cst)) r0) (F0 m 39 ls [])) : ∀ (n : Nat) (x4 : Int32) (x5 : Int32) (x6 : Int32) (qhe : Nat → Int32) (qbi : Nat → Int32) (qhv : Nat → Int32) (qwo : Nat → Int32) (qts : Int32) (qbb : Int32) (qbc : Int32) (qbw : Int32) (cca : Int32) (csi : Int32) (cfa : Nat → Int32), Q_choose_L53 rc25 rc39 n x4 x5 x6 qhe qbi qhv qwo qts qbb qbc qbw cca csi cfa = some (r0, qts_z, qbb_z, qbc_z, qbw_z) → ∀ (H : Heap) (locs : List Loc) (ls : Array Slot), Wd Γ w0 s ((WQ Γ Aq qhe qbi qhv qwo qts qbb qbc qbw) ++ (WC Γ Ac csw cca csi cab cun csg cfa che cst)) H locs → lv_has ls 7 [(0, .ref (Aq 0)), (4, .int x4), (5, .int x5), (6, .int x6)] → W p l e rmQ_choose s m args below meth c H locs 0 0 (EI Γ below args s w0 ((WQ Γ Aq qhe qbi qhv qwo qts_z qbb_z qbc_z qbw_z) ++ (WC Γ Ac csw cca csi cab cun csg cfa che cst)) r0) (F0 m 53 ls []) := by
  intro n
  induction n with
  | zero => intro x4 x5 x6 qhe qbi qhv qwo qts qbb qbc qbw cca csi cfa hf; cases hf
  | succ n ih => intro x4 x5 x6 qhe qbi qhv qwo qts qbb qbc qbw cca csi cfa hf H locs ls Y hl; exact bQ_choose_53 X h25 h39 ih hf Y hl
def Q_choose_39 (rc25 : Int32 → (Nat → Int32) → (Nat → Int32) → (Nat → Int32) → (Nat → Int32) → Int32 → Int32 → Int32 → Int32 → Int32 → Int32 → (Nat → Int32) → Option (Int32 × Int32 × Int32 × Int32 × Int32)) (rc39 : Int32 → Int32 → (Nat → Int32) → (Nat → Int32) → (Nat → Int32) → (Nat → Int32) → Int32 → Int32 → Int32 → Int32 → Int32 → Int32 → (Nat → Int32) → Option (Int32 × Int32 × Int32 × Int32 × Int32)) (x4 : Int32) (x5 : Int32) (qhe : Nat → Int32) (qbi : Nat → Int32) (qhv : Nat → Int32) (qwo : Nat → Int32) (qts : Int32) (qbb : Int32) (qbc : Int32) (qbw : Int32) (cca : Int32) (csi : Int32) (cfa : Nat → Int32) : Option (Int32 × Int32 × Int32 × Int32 × Int32) := if (qhe 1) < x5 then (bnd (x4 + (1 : Int32)) (fun (x4_2 : Int32) => rc25 x4_2 qhe qbi qhv qwo qts qbb qbc qbw cca csi cfa)) else (Q_choose_L53 rc25 rc39 FU x4 x5 (0 : Int32) qhe qbi qhv qwo qts qbb qbc qbw cca csi cfa)
set_option maxHeartbeats 4000000 in
set_option maxRecDepth 100000 in
theorem bQ_choose_39 {Aq : Nat → Nat} {Ac : Nat → Nat} {qhe : Nat → Int32} {qbi : Nat → Int32} {qhv : Nat → Int32} {qwo : Nat → Int32} {qts : Int32} {qbb : Int32} {qbc : Int32} {qbw : Int32} {csw : Int32} {cca : Int32} {csi : Int32} {cab : Int32} {cun : Int32} {csg : Int32} {cfa : Nat → Int32} {che : Nat → Int32} {cst : Nat → Int32} {qts_z : Int32} {qbb_z : Int32} {qbc_z : Int32} {qbw_z : Int32} {r0 : Int32} {x4 : Int32} {x5 : Int32} {rc25 : Int32 → (Nat → Int32) → (Nat → Int32) → (Nat → Int32) → (Nat → Int32) → Int32 → Int32 → Int32 → Int32 → Int32 → Int32 → (Nat → Int32) → Option (Int32 × Int32 × Int32 × Int32 × Int32)} {rc39 : Int32 → Int32 → (Nat → Int32) → (Nat → Int32) → (Nat → Int32) → (Nat → Int32) → Int32 → Int32 → Int32 → Int32 → Int32 → Int32 → (Nat → Int32) → Option (Int32 × Int32 × Int32 × Int32 × Int32)} (X : Cx Γ p s m args meth c RX6 cX6_choose 7 (some .int) w0) (h25 : ∀ (x4 : Int32) (qhe : Nat → Int32) (qbi : Nat → Int32) (qhv : Nat → Int32) (qwo : Nat → Int32) (qts : Int32) (qbb : Int32) (qbc : Int32) (qbw : Int32) (cca : Int32) (csi : Int32) (cfa : Nat → Int32), rc25 x4 qhe qbi qhv qwo qts qbb qbc qbw cca csi cfa = some (r0, qts_z, qbb_z, qbc_z, qbw_z) → ∀ (H : Heap) (locs : List Loc) (ls : Array Slot), Wd Γ w0 s ((WQ Γ Aq qhe qbi qhv qwo qts qbb qbc qbw) ++ (WC Γ Ac csw cca csi cab cun csg cfa che cst)) H locs → lv_has ls 7 [(0, .ref (Aq 0)), (4, .int x4)] → W p l e rmQ_choose s m args below meth c H locs 0 0 (EI Γ below args s w0 ((WQ Γ Aq qhe qbi qhv qwo qts_z qbb_z qbc_z qbw_z) ++ (WC Γ Ac csw cca csi cab cun csg cfa che cst)) r0) (F0 m 25 ls [])) (h39 : ∀ (x4 : Int32) (x5 : Int32) (qhe : Nat → Int32) (qbi : Nat → Int32) (qhv : Nat → Int32) (qwo : Nat → Int32) (qts : Int32) (qbb : Int32) (qbc : Int32) (qbw : Int32) (cca : Int32) (csi : Int32) (cfa : Nat → Int32), rc39 x4 x5 qhe qbi qhv qwo qts qbb qbc qbw cca csi cfa = some (r0, qts_z, qbb_z, qbc_z, qbw_z) → ∀ (H : Heap) (locs : List Loc) (ls : Array Slot), Wd Γ w0 s ((WQ Γ Aq qhe qbi qhv qwo qts qbb qbc qbw) ++ (WC Γ Ac csw cca csi cab cun csg cfa che cst)) H locs → lv_has ls 7 [(0, .ref (Aq 0)), (4, .int x4), (5, .int x5)] → W p l e rmQ_choose s m args below meth c H locs 0 0 (EI Γ below args s w0 ((WQ Γ Aq qhe qbi qhv qwo qts_z qbb_z qbc_z qbw_z) ++ (WC Γ Ac csw cca csi cab cun csg cfa che cst)) r0) (F0 m 39 ls [])) (hf : Q_choose_39 rc25 rc39 x4 x5 qhe qbi qhv qwo qts qbb qbc qbw cca csi cfa = some (r0, qts_z, qbb_z, qbc_z, qbw_z)) (Y : Wd Γ w0 s ((WQ Γ Aq qhe qbi qhv qwo qts qbb qbc qbw) ++ (WC Γ Ac csw cca csi cab cun csg cfa che cst)) H locs) (hl : lv_has ls 7 [(0, .ref (Aq 0)), (4, .int x4), (5, .int x5)]) : W p l e rmQ_choose s m args below meth c H locs 0 0 (EI Γ below args s w0 ((WQ Γ Aq qhe qbi qhv qwo qts_z qbb_z qbc_z qbw_z) ++ (WC Γ Ac csw cca csi cab cun csg cfa che cst)) r0) (F0 m 39 ls []) := by
  have hx := X.1
  have hb := X.2.1
  refine lv_iload hx hb dX6_choose_39 (lv_at hl 2 rfl) ?_
  refine lv_aload_n hx hb dX6_choose_41 rfl (lv_at hl 0 rfl) ?_
  refine gfX6_9 X Y (v := .ref (Aq 1)) 0 rfl rfl dX6_choose_42 ?_
  refine lv_iconst (v := (1 : Int32)) hx hb dX6_choose_45 (by decide) ?_
  refine x_iald X Y 1 rfl (j := 1) rfl rfl dX6_choose_46 ?_
  refine lv_icmp_gt (tgt := 86) hx hb dX6_choose_47 (by decide) (fun c_1 => ?_) (fun c_1 => ?_)
  · have hf := ite_t hf c_1
    obtain ⟨x4_2, e_x4_2⟩ : ∃ z : Int32, z = (x4 + (1 : Int32)) := ⟨_, rfl⟩
    have hf := bnd_eq hf e_x4_2
    refine lv_iinc (v := x4_2) (lv' := [(4, .int x4_2), (0, .ref (Aq 0)), (5, .int x5)]) hx hb dX6_choose_86 hl (k := 1) rfl (by rw [e_x4_2]; rfl) (by decide) rfl (fun ls hl => ?_)
    refine lv_goto (tgt := 25) hx hb dX6_choose_89 (by decide) ?_
    exact h25 _ _ _ _ _ _ _ _ _ _ _ _ hf _ _ _ Y (lv_sub hl [1, 0] rfl)
  · have hf := ite_f hf c_1
    refine lv_iconst (v := (0 : Int32)) hx hb dX6_choose_50 (by decide) ?_
    refine lv_istore (lv' := [(6, .int (0 : Int32)), (0, .ref (Aq 0)), (4, .int x4), (5, .int x5)]) hx hb dX6_choose_51 hl (by decide) rfl (fun ls hl => ?_)
    exact lQ_choose_53 X h25 h39 _ _ _ _ _ _ _ _ _ _ _ _ _ _ _ hf _ _ _ Y (lv_sub hl [1, 2, 3, 0] rfl)
def Q_choose_L39 (rc25 : Int32 → (Nat → Int32) → (Nat → Int32) → (Nat → Int32) → (Nat → Int32) → Int32 → Int32 → Int32 → Int32 → Int32 → Int32 → (Nat → Int32) → Option (Int32 × Int32 × Int32 × Int32 × Int32)) : Nat → Int32 → Int32 → (Nat → Int32) → (Nat → Int32) → (Nat → Int32) → (Nat → Int32) → Int32 → Int32 → Int32 → Int32 → Int32 → Int32 → (Nat → Int32) → Option (Int32 × Int32 × Int32 × Int32 × Int32)
  | 0, _, _, _, _, _, _, _, _, _, _, _, _, _ => none
  | n + 1, x4, x5, qhe, qbi, qhv, qwo, qts, qbb, qbc, qbw, cca, csi, cfa => Q_choose_39 rc25 (Q_choose_L39 rc25 n) x4 x5 qhe qbi qhv qwo qts qbb qbc qbw cca csi cfa
theorem lQ_choose_39 {Aq : Nat → Nat} {Ac : Nat → Nat} {csw : Int32} {cab : Int32} {cun : Int32} {csg : Int32} {che : Nat → Int32} {cst : Nat → Int32} {qts_z : Int32} {qbb_z : Int32} {qbc_z : Int32} {qbw_z : Int32} {r0 : Int32} {rc25 : Int32 → (Nat → Int32) → (Nat → Int32) → (Nat → Int32) → (Nat → Int32) → Int32 → Int32 → Int32 → Int32 → Int32 → Int32 → (Nat → Int32) → Option (Int32 × Int32 × Int32 × Int32 × Int32)} (X : Cx Γ p s m args meth c RX6 cX6_choose 7 (some .int) w0) (h25 : ∀ (x4 : Int32) (qhe : Nat → Int32) (qbi : Nat → Int32) (qhv : Nat → Int32) (qwo : Nat → Int32) (qts : Int32) (qbb : Int32) (qbc : Int32) (qbw : Int32) (cca : Int32) (csi : Int32) (cfa : Nat → Int32), rc25 x4 qhe qbi qhv qwo qts qbb qbc qbw cca csi cfa = some (r0, qts_z, qbb_z, qbc_z, qbw_z) → ∀ (H : Heap) (locs : List Loc) (ls : Array Slot), Wd Γ w0 s ((WQ Γ Aq qhe qbi qhv qwo qts qbb qbc qbw) ++ (WC Γ Ac csw cca csi cab cun csg cfa che cst)) H locs → lv_has ls 7 [(0, .ref (Aq 0)), (4, .int x4)] → W p l e rmQ_choose s m args below meth c H locs 0 0 (EI Γ below args s w0 ((WQ Γ Aq qhe qbi qhv qwo qts_z qbb_z qbc_z qbw_z) ++ (WC Γ Ac csw cca csi cab cun csg cfa che cst)) r0) (F0 m 25 ls [])) : ∀ (n : Nat) (x4 : Int32) (x5 : Int32) (qhe : Nat → Int32) (qbi : Nat → Int32) (qhv : Nat → Int32) (qwo : Nat → Int32) (qts : Int32) (qbb : Int32) (qbc : Int32) (qbw : Int32) (cca : Int32) (csi : Int32) (cfa : Nat → Int32), Q_choose_L39 rc25 n x4 x5 qhe qbi qhv qwo qts qbb qbc qbw cca csi cfa = some (r0, qts_z, qbb_z, qbc_z, qbw_z) → ∀ (H : Heap) (locs : List Loc) (ls : Array Slot), Wd Γ w0 s ((WQ Γ Aq qhe qbi qhv qwo qts qbb qbc qbw) ++ (WC Γ Ac csw cca csi cab cun csg cfa che cst)) H locs → lv_has ls 7 [(0, .ref (Aq 0)), (4, .int x4), (5, .int x5)] → W p l e rmQ_choose s m args below meth c H locs 0 0 (EI Γ below args s w0 ((WQ Γ Aq qhe qbi qhv qwo qts_z qbb_z qbc_z qbw_z) ++ (WC Γ Ac csw cca csi cab cun csg cfa che cst)) r0) (F0 m 39 ls []) := by
  intro n
  induction n with
  | zero => intro x4 x5 qhe qbi qhv qwo qts qbb qbc qbw cca csi cfa hf; cases hf
  | succ n ih => intro x4 x5 qhe qbi qhv qwo qts qbb qbc qbw cca csi cfa hf H locs ls Y hl; exact bQ_choose_39 X h25 ih hf Y hl
def Q_choose_25 (rc25 : Int32 → (Nat → Int32) → (Nat → Int32) → (Nat → Int32) → (Nat → Int32) → Int32 → Int32 → Int32 → Int32 → Int32 → Int32 → (Nat → Int32) → Option (Int32 × Int32 × Int32 × Int32 × Int32)) (x4 : Int32) (qhe : Nat → Int32) (qbi : Nat → Int32) (qhv : Nat → Int32) (qwo : Nat → Int32) (qts : Int32) (qbb : Int32) (qbc : Int32) (qbw : Int32) (cca : Int32) (csi : Int32) (cfa : Nat → Int32) : Option (Int32 × Int32 × Int32 × Int32 × Int32) := if (qhe 0) < x4 then (some (qbb, qts, qbb, qbc, qbw)) else (Q_choose_L39 rc25 FU x4 (0 : Int32) qhe qbi qhv qwo qts qbb qbc qbw cca csi cfa)
set_option maxHeartbeats 4000000 in
set_option maxRecDepth 100000 in
theorem bQ_choose_25 {Aq : Nat → Nat} {Ac : Nat → Nat} {qhe : Nat → Int32} {qbi : Nat → Int32} {qhv : Nat → Int32} {qwo : Nat → Int32} {qts : Int32} {qbb : Int32} {qbc : Int32} {qbw : Int32} {csw : Int32} {cca : Int32} {csi : Int32} {cab : Int32} {cun : Int32} {csg : Int32} {cfa : Nat → Int32} {che : Nat → Int32} {cst : Nat → Int32} {qts_z : Int32} {qbb_z : Int32} {qbc_z : Int32} {qbw_z : Int32} {r0 : Int32} {x4 : Int32} {rc25 : Int32 → (Nat → Int32) → (Nat → Int32) → (Nat → Int32) → (Nat → Int32) → Int32 → Int32 → Int32 → Int32 → Int32 → Int32 → (Nat → Int32) → Option (Int32 × Int32 × Int32 × Int32 × Int32)} (X : Cx Γ p s m args meth c RX6 cX6_choose 7 (some .int) w0) (h25 : ∀ (x4 : Int32) (qhe : Nat → Int32) (qbi : Nat → Int32) (qhv : Nat → Int32) (qwo : Nat → Int32) (qts : Int32) (qbb : Int32) (qbc : Int32) (qbw : Int32) (cca : Int32) (csi : Int32) (cfa : Nat → Int32), rc25 x4 qhe qbi qhv qwo qts qbb qbc qbw cca csi cfa = some (r0, qts_z, qbb_z, qbc_z, qbw_z) → ∀ (H : Heap) (locs : List Loc) (ls : Array Slot), Wd Γ w0 s ((WQ Γ Aq qhe qbi qhv qwo qts qbb qbc qbw) ++ (WC Γ Ac csw cca csi cab cun csg cfa che cst)) H locs → lv_has ls 7 [(0, .ref (Aq 0)), (4, .int x4)] → W p l e rmQ_choose s m args below meth c H locs 0 0 (EI Γ below args s w0 ((WQ Γ Aq qhe qbi qhv qwo qts_z qbb_z qbc_z qbw_z) ++ (WC Γ Ac csw cca csi cab cun csg cfa che cst)) r0) (F0 m 25 ls [])) (hf : Q_choose_25 rc25 x4 qhe qbi qhv qwo qts qbb qbc qbw cca csi cfa = some (r0, qts_z, qbb_z, qbc_z, qbw_z)) (Y : Wd Γ w0 s ((WQ Γ Aq qhe qbi qhv qwo qts qbb qbc qbw) ++ (WC Γ Ac csw cca csi cab cun csg cfa che cst)) H locs) (hl : lv_has ls 7 [(0, .ref (Aq 0)), (4, .int x4)]) : W p l e rmQ_choose s m args below meth c H locs 0 0 (EI Γ below args s w0 ((WQ Γ Aq qhe qbi qhv qwo qts_z qbb_z qbc_z qbw_z) ++ (WC Γ Ac csw cca csi cab cun csg cfa che cst)) r0) (F0 m 25 ls []) := by
  have hx := X.1
  have hb := X.2.1
  refine lv_iload hx hb dX6_choose_25 (lv_at hl 1 rfl) ?_
  refine lv_aload_n hx hb dX6_choose_27 rfl (lv_at hl 0 rfl) ?_
  refine gfX6_9 X Y (v := .ref (Aq 1)) 0 rfl rfl dX6_choose_28 ?_
  refine lv_iconst (v := (0 : Int32)) hx hb dX6_choose_31 (by decide) ?_
  refine x_iald X Y 1 rfl (j := 0) rfl rfl dX6_choose_32 ?_
  refine lv_icmp_gt (tgt := 92) hx hb dX6_choose_33 (by decide) (fun c_1 => ?_) (fun c_1 => ?_)
  · have hf := ite_t hf c_1
    refine lv_aload_n hx hb dX6_choose_92 rfl (lv_at hl 0 rfl) ?_
    refine gfX6_66 X Y (v := .int qbb) 0 rfl rfl dX6_choose_93 ?_
    obtain ⟨e90, e91, e92, e93, e94⟩ := sj5 hf
    subst e90
    subst e91
    subst e92
    subst e93
    subst e94
    exact x_iret X Y dX6_choose_96
  · have hf := ite_f hf c_1
    refine lv_iconst (v := (0 : Int32)) hx hb dX6_choose_36 (by decide) ?_
    refine lv_istore (lv' := [(5, .int (0 : Int32)), (0, .ref (Aq 0)), (4, .int x4)]) hx hb dX6_choose_37 hl (by decide) rfl (fun ls hl => ?_)
    exact lQ_choose_39 X h25 _ _ _ _ _ _ _ _ _ _ _ _ _ _ hf _ _ _ Y (lv_sub hl [1, 2, 0] rfl)
def Q_choose_L25 : Nat → Int32 → (Nat → Int32) → (Nat → Int32) → (Nat → Int32) → (Nat → Int32) → Int32 → Int32 → Int32 → Int32 → Int32 → Int32 → (Nat → Int32) → Option (Int32 × Int32 × Int32 × Int32 × Int32)
  | 0, _, _, _, _, _, _, _, _, _, _, _, _ => none
  | n + 1, x4, qhe, qbi, qhv, qwo, qts, qbb, qbc, qbw, cca, csi, cfa => Q_choose_25 (Q_choose_L25 n) x4 qhe qbi qhv qwo qts qbb qbc qbw cca csi cfa
theorem lQ_choose_25 {Aq : Nat → Nat} {Ac : Nat → Nat} {csw : Int32} {cab : Int32} {cun : Int32} {csg : Int32} {che : Nat → Int32} {cst : Nat → Int32} {qts_z : Int32} {qbb_z : Int32} {qbc_z : Int32} {qbw_z : Int32} {r0 : Int32} (X : Cx Γ p s m args meth c RX6 cX6_choose 7 (some .int) w0) : ∀ (n : Nat) (x4 : Int32) (qhe : Nat → Int32) (qbi : Nat → Int32) (qhv : Nat → Int32) (qwo : Nat → Int32) (qts : Int32) (qbb : Int32) (qbc : Int32) (qbw : Int32) (cca : Int32) (csi : Int32) (cfa : Nat → Int32), Q_choose_L25 n x4 qhe qbi qhv qwo qts qbb qbc qbw cca csi cfa = some (r0, qts_z, qbb_z, qbc_z, qbw_z) → ∀ (H : Heap) (locs : List Loc) (ls : Array Slot), Wd Γ w0 s ((WQ Γ Aq qhe qbi qhv qwo qts qbb qbc qbw) ++ (WC Γ Ac csw cca csi cab cun csg cfa che cst)) H locs → lv_has ls 7 [(0, .ref (Aq 0)), (4, .int x4)] → W p l e rmQ_choose s m args below meth c H locs 0 0 (EI Γ below args s w0 ((WQ Γ Aq qhe qbi qhv qwo qts_z qbb_z qbc_z qbw_z) ++ (WC Γ Ac csw cca csi cab cun csg cfa che cst)) r0) (F0 m 25 ls []) := by
  intro n
  induction n with
  | zero => intro x4 qhe qbi qhv qwo qts qbb qbc qbw cca csi cfa hf; cases hf
  | succ n ih => intro x4 qhe qbi qhv qwo qts qbb qbc qbw cca csi cfa hf H locs ls Y hl; exact bQ_choose_25 X ih hf Y hl
def Q_choose (x2 : Int32) (x3 : Int32) (qhe : Nat → Int32) (qbi : Nat → Int32) (qhv : Nat → Int32) (qwo : Nat → Int32) (qts : Int32) (qbb : Int32) (qbc : Int32) (qbw : Int32) (cca : Int32) (csi : Int32) (cfa : Nat → Int32) : Option (Int32 × Int32 × Int32 × Int32 × Int32) := bd1 (C_total x2 (3 : Int32) csi cfa) (fun (r_1 : Int32) => bnd (r_1 - (cca - x3)) (fun (qts_2 : Int32) => Q_choose_L25 FU (0 : Int32) qhe qbi qhv qwo qts_2 (-1 : Int32) qbc qbw cca csi cfa))
set_option maxHeartbeats 4000000 in
set_option maxRecDepth 100000 in
theorem bQ_choose_e {Aq : Nat → Nat} {Ac : Nat → Nat} {qhe : Nat → Int32} {qbi : Nat → Int32} {qhv : Nat → Int32} {qwo : Nat → Int32} {qts : Int32} {qbb : Int32} {qbc : Int32} {qbw : Int32} {csw : Int32} {cca : Int32} {csi : Int32} {cab : Int32} {cun : Int32} {csg : Int32} {cfa : Nat → Int32} {che : Nat → Int32} {cst : Nat → Int32} {qts_z : Int32} {qbb_z : Int32} {qbc_z : Int32} {qbw_z : Int32} {r0 : Int32} {x2 : Int32} {x3 : Int32} (X : Cx Γ p s m args meth c RX6 cX6_choose 7 (some .int) w0) (hf : Q_choose x2 x3 qhe qbi qhv qwo qts qbb qbc qbw cca csi cfa = some (r0, qts_z, qbb_z, qbc_z, qbw_z)) (Y : Wd Γ w0 s ((WQ Γ Aq qhe qbi qhv qwo qts qbb qbc qbw) ++ (WC Γ Ac csw cca csi cab cun csg cfa che cst)) H locs) (hl : lv_has ls 7 [(0, .ref (Aq 0)), (1, .ref (Ac 0)), (2, .int x2), (3, .int x3)]) : W p l e rmQ_choose s m args below meth c H locs 0 0 (EI Γ below args s w0 ((WQ Γ Aq qhe qbi qhv qwo qts_z qbb_z qbc_z qbw_z) ++ (WC Γ Ac csw cca csi cab cun csg cfa che cst)) r0) (F0 m 0 ls []) := by
  have hx := X.1
  have hb := X.2.1
  refine lv_aload_n hx hb dX6_choose_0 rfl (lv_at hl 0 rfl) ?_
  refine lv_aload_n hx hb dX6_choose_1 rfl (lv_at hl 1 rfl) ?_
  refine lv_iload_n hx hb dX6_choose_2 rfl (lv_at hl 2 rfl) ?_
  refine lv_iconst (v := (3 : Int32)) hx hb dX6_choose_3 (by decide) ?_
  obtain ⟨r_1, ho_3, hf⟩ := bd1_some hf
  refine t_i Y (bkE Y [5, 6, 7, 8] rfl) (r_V (As := [.int x2, .int (3 : Int32)]) (rest := [.ref (Aq 0)]) X (c_pre X Y [5, 6, 7, 8] rfl rfl) (cC_total ho_3) (cwX6_57 X (by decide)) (va_recv X.K Y.1 (q := (RX1, TX1, 9)) (q0 := 5) (ci := 1) rfl rfl) rfl hl.1 (Nat.le_of_ble_eq_true rfl) rfl dX6_choose_4 ⟨Nat.zero_le _, Nat.zero_le _⟩) (fun H locs Y => ?_)
  refine lv_aload_n hx hb dX6_choose_7 rfl (lv_at hl 1 rfl) ?_
  refine gfX6_60 X Y (v := .int cca) 5 rfl rfl dX6_choose_8 ?_
  refine lv_iload_n hx hb dX6_choose_11 rfl (lv_at hl 3 rfl) ?_
  refine lv_isub hx hb dX6_choose_12 ?_
  refine lv_isub hx hb dX6_choose_13 ?_
  refine lv_topi (fun qts_2 e_qts_2 => ?_)
  have hf := bnd_eq hf e_qts_2
  refine pfX6_63 X Y 0 rfl rfl rfl (Nat.le_of_ble_eq_true rfl) (ws' := ((WQ Γ Aq qhe qbi qhv qwo qts_2 qbb qbc qbw) ++ (WC Γ Ac csw cca csi cab cun csg cfa che cst))) rfl dX6_choose_14 (fun H locs Y => ?_)
  refine lv_aload_n hx hb dX6_choose_17 rfl (lv_at hl 0 rfl) ?_
  refine lv_iconst (v := (-1 : Int32)) hx hb dX6_choose_18 (by decide) ?_
  refine pfX6_66 X Y 0 rfl rfl rfl (Nat.le_of_ble_eq_true rfl) (ws' := ((WQ Γ Aq qhe qbi qhv qwo qts_2 (-1 : Int32) qbc qbw) ++ (WC Γ Ac csw cca csi cab cun csg cfa che cst))) rfl dX6_choose_19 (fun H locs Y => ?_)
  refine lv_iconst (v := (0 : Int32)) hx hb dX6_choose_22 (by decide) ?_
  refine lv_istore (lv' := [(4, .int (0 : Int32)), (0, .ref (Aq 0)), (1, .ref (Ac 0)), (2, .int x2), (3, .int x3)]) hx hb dX6_choose_23 hl (by decide) rfl (fun ls hl => ?_)
  exact lQ_choose_25 X _ _ _ _ _ _ _ _ _ _ _ _ _ hf _ _ _ Y (lv_sub hl [1, 0] rfl)
theorem cQ_choose {l : Launch} {Γ : Gm} {Aq : Nat → Nat} {Ac : Nat → Nat} {qhe : Nat → Int32} {qbi : Nat → Int32} {qhv : Nat → Int32} {qwo : Nat → Int32} {qts : Int32} {qbb : Int32} {qbc : Int32} {qbw : Int32} {csw : Int32} {cca : Int32} {csi : Int32} {cab : Int32} {cun : Int32} {csg : Int32} {cfa : Nat → Int32} {che : Nat → Int32} {cst : Nat → Int32} {qts_z : Int32} {qbb_z : Int32} {qbc_z : Int32} {qbw_z : Int32} {r0 : Int32} {x2 : Int32} {x3 : Int32} (h : Q_choose x2 x3 qhe qbi qhv qwo qts qbb qbc qbw cca csi cfa = some (r0, qts_z, qbb_z, qbc_z, qbw_z)) : CI l Γ yX6_choose (Cond.code yX6_choose cX6_choose 7 (some .int) :: GW) rmQ_choose [.ref (Aq 0), .ref (Ac 0), .int x2, .int x3] ((WQ Γ Aq qhe qbi qhv qwo qts qbb qbc qbw) ++ (WC Γ Ac csw cca csi cab cun csg cfa che cst)) ((WQ Γ Aq qhe qbi qhv qwo qts_z qbb_z qbc_z qbw_z) ++ (WC Γ Ac csw cca csi cab cun csg cfa che cst)) r0 := ofBody (Qc := QcI Γ _ _ r0) (by decide) (Nat.le_of_ble_eq_true rfl) (fun p e s m below meth c ls _ X Y hl => bQ_choose_e X h Y hl)
theorem cwX6_49 (X : Cx Γ p s m args meth c RX6 cc nL ret w0) (hR : rmC_fact.frames + 1 ≤ R.frames ∧ 8 + (3 + 11) + rmC_fact.locals ≤ R.locals) : CallW R s args RX6 RX1 49 yX1_fact cX1_fact 3 (some .int) (Cond.code yX1_fact cX1_fact 3 (some .int) :: GW) rmC_fact 0 0 2 := cw_V X kw386 kw245 kw246 kw228 kw247 dmX1_factV rfl rfl hR
def rmQ_lay : Room := { frames := 2, cells := 0, slots := 0, locals := 44 }
def Q_lay (x2 : Int32) (x3 : Int32) (qhe : Nat → Int32) (qbi : Nat → Int32) (qhv : Nat → Int32) (qwo : Nat → Int32) (csi : Int32) (cfa : Nat → Int32) : Option ((Nat → Int32) × (Nat → Int32) × (Nat → Int32) × (Nat → Int32)) := bd1 (X_within x3 (0 : Int32) (2 : Int32)) (fun (r_1 : Int32) => if r_1 = 0 then (some (qhe, qbi, qhv, qwo)) else (ck (inb x3 3) (bd1 (X_within (qhe x3.toNatClampNeg) (0 : Int32) (7 : Int32)) (fun (r_4 : Int32) => if r_4 = 0 then (some (qhe, qbi, qhv, qwo)) else (ck (inb x3 3) (bnd ((x3 * (9 : Int32)) + (qhe x3.toNatClampNeg)) (fun (x4_7 : Int32) => ck (inb x4_7 27) (bnd ((qbi x4_7.toNatClampNeg) ||| ((1 : Int32) <<< (x2 &&& 31))) (fun (v_9 : Int32) => ck (inb (x4_7 + (1 : Int32)) 27) (bnd (upd qbi (x4_7 + (1 : Int32)).toNatClampNeg v_9) (fun (qbi_10 : Nat → Int32) => ck (inb x4_7 27) (bd1 (C_fact x2 (3 : Int32) csi cfa) (fun (r_13 : Int32) => bnd ((qhv x4_7.toNatClampNeg) + r_13) (fun (v_14 : Int32) => ck (inb (x4_7 + (1 : Int32)) 27) (bnd (upd qhv (x4_7 + (1 : Int32)).toNatClampNeg v_14) (fun (qhv_15 : Nat → Int32) => ck (inb x4_7 27) (bd1 (C_fact x2 (4 : Int32) csi cfa) (fun (r_18 : Int32) => bnd ((qwo x4_7.toNatClampNeg) + r_18) (fun (v_19 : Int32) => ck (inb (x4_7 + (1 : Int32)) 27) (bnd (upd qwo (x4_7 + (1 : Int32)).toNatClampNeg v_19) (fun (qwo_20 : Nat → Int32) => ck (inb x3 3) (bnd ((qhe x3.toNatClampNeg) + (1 : Int32)) (fun (v_23 : Int32) => ck (inb x3 3) (bnd (upd qhe x3.toNatClampNeg v_23) (fun (qhe_24 : Nat → Int32) => some (qhe_24, qbi_10, qhv_15, qwo_20))))))))))))))))))))))))))
set_option maxHeartbeats 4000000 in
set_option maxRecDepth 100000 in
theorem bQ_lay_e {Aq : Nat → Nat} {Ac : Nat → Nat} {qhe : Nat → Int32} {qbi : Nat → Int32} {qhv : Nat → Int32} {qwo : Nat → Int32} {qts : Int32} {qbb : Int32} {qbc : Int32} {qbw : Int32} {csw : Int32} {cca : Int32} {csi : Int32} {cab : Int32} {cun : Int32} {csg : Int32} {cfa : Nat → Int32} {che : Nat → Int32} {cst : Nat → Int32} {qhe_z : Nat → Int32} {qbi_z : Nat → Int32} {qhv_z : Nat → Int32} {qwo_z : Nat → Int32} {x2 : Int32} {x3 : Int32} (X : Cx Γ p s m args meth c RX6 cX6_lay 5 none w0) (hf : Q_lay x2 x3 qhe qbi qhv qwo csi cfa = some (qhe_z, qbi_z, qhv_z, qwo_z)) (Y : Wd Γ w0 s ((WQ Γ Aq qhe qbi qhv qwo qts qbb qbc qbw) ++ (WC Γ Ac csw cca csi cab cun csg cfa che cst)) H locs) (hl : lv_has ls 5 [(0, .ref (Aq 0)), (1, .ref (Ac 0)), (2, .int x2), (3, .int x3)]) : W p l e rmQ_lay s m args below meth c H locs 0 0 (EV Γ below args s w0 ((WQ Γ Aq qhe_z qbi_z qhv_z qwo_z qts qbb qbc qbw) ++ (WC Γ Ac csw cca csi cab cun csg cfa che cst))) (F0 m 0 ls []) := by
  have hx := X.1
  have hb := X.2.1
  refine lv_iload_n hx hb dX6_lay_0 rfl (lv_at hl 3 rfl) ?_
  refine lv_iconst (v := (0 : Int32)) hx hb dX6_lay_1 (by decide) ?_
  refine lv_iconst (v := (2 : Int32)) hx hb dX6_lay_2 (by decide) ?_
  obtain ⟨r_1, ho_29, hf⟩ := bd1_some hf
  refine t_i Y (bk0 Y) (r_SN (As := [.int x3, .int (0 : Int32), .int (2 : Int32)]) (rest := []) X (c_pre0 X Y) (cX_within ho_29) (cwX6_53 X (by decide)) rfl hl.1 (Nat.le_of_ble_eq_true rfl) rfl dX6_lay_3 ⟨Nat.zero_le _, Nat.zero_le _⟩) (fun H locs Y => ?_)
  refine lv_if_eq (tgt := 24) hx hb dX6_lay_6 (by decide) (fun c_2 => ?_) (fun c_2 => ?_)
  · have hf := ite_t hf c_2
    obtain ⟨e90, e91, e92, e93⟩ := sj4 hf
    subst e90
    subst e91
    subst e92
    subst e93
    exact x_vret X Y dX6_lay_24
  · have hf := ite_f hf c_2
    refine lv_aload_n hx hb dX6_lay_9 rfl (lv_at hl 0 rfl) ?_
    refine gfX6_9 X Y (v := .ref (Aq 1)) 0 rfl rfl dX6_lay_10 ?_
    refine lv_iload_n hx hb dX6_lay_13 rfl (lv_at hl 3 rfl) ?_
    obtain ⟨hi_3, hf⟩ := ck_some hf
    refine x_iald X Y 1 rfl rfl hi_3 dX6_lay_14 ?_
    refine lv_iconst (v := (0 : Int32)) hx hb dX6_lay_15 (by decide) ?_
    refine lv_bipush (v := (7 : Int32)) hx hb dX6_lay_16 (by decide) ?_
    obtain ⟨r_4, ho_28, hf⟩ := bd1_some hf
    refine t_i Y (bk0 Y) (r_SN (As := [.int (qhe x3.toNatClampNeg), .int (0 : Int32), .int (7 : Int32)]) (rest := []) X (c_pre0 X Y) (cX_within ho_28) (cwX6_53 X (by decide)) rfl hl.1 (Nat.le_of_ble_eq_true rfl) rfl dX6_lay_18 ⟨Nat.zero_le _, Nat.zero_le _⟩) (fun H locs Y => ?_)
    refine lv_if_ne (tgt := 25) hx hb dX6_lay_21 (by decide) (fun c_5 => ?_) (fun c_5 => ?_)
    · have hf := ite_f hf c_5
      refine lv_iload_n hx hb dX6_lay_25 rfl (lv_at hl 3 rfl) ?_
      refine lv_bipush (v := (9 : Int32)) hx hb dX6_lay_26 (by decide) ?_
      refine lv_imul hx hb dX6_lay_28 ?_
      refine lv_aload_n hx hb dX6_lay_29 rfl (lv_at hl 0 rfl) ?_
      refine gfX6_9 X Y (v := .ref (Aq 1)) 0 rfl rfl dX6_lay_30 ?_
      refine lv_iload_n hx hb dX6_lay_33 rfl (lv_at hl 3 rfl) ?_
      obtain ⟨hi_6, hf⟩ := ck_some hf
      refine x_iald X Y 1 rfl rfl hi_6 dX6_lay_34 ?_
      refine lv_iadd hx hb dX6_lay_35 ?_
      refine lv_topi (fun x4_7 e_x4_7 => ?_)
      have hf := bnd_eq hf e_x4_7
      refine lv_istore (lv' := [(4, .int x4_7), (0, .ref (Aq 0)), (1, .ref (Ac 0)), (2, .int x2), (3, .int x3)]) hx hb dX6_lay_36 hl (by decide) rfl (fun ls hl => ?_)
      refine lv_aload_n hx hb dX6_lay_38 rfl (lv_at hl 1 rfl) ?_
      refine gfX6_15 X Y (v := .ref (Aq 2)) 0 rfl rfl dX6_lay_39 ?_
      refine lv_iload hx hb dX6_lay_42 (lv_at hl 0 rfl) ?_
      refine lv_iconst (v := (1 : Int32)) hx hb dX6_lay_44 (by decide) ?_
      refine lv_iadd hx hb dX6_lay_45 ?_
      refine lv_aload_n hx hb dX6_lay_46 rfl (lv_at hl 1 rfl) ?_
      refine gfX6_15 X Y (v := .ref (Aq 2)) 0 rfl rfl dX6_lay_47 ?_
      refine lv_iload hx hb dX6_lay_50 (lv_at hl 0 rfl) ?_
      obtain ⟨hi_8, hf⟩ := ck_some hf
      refine x_iald X Y 2 rfl rfl hi_8 dX6_lay_52 ?_
      refine lv_iconst (v := (1 : Int32)) hx hb dX6_lay_53 (by decide) ?_
      refine lv_iload_n hx hb dX6_lay_54 rfl (lv_at hl 3 rfl) ?_
      refine lv_ishl hx hb dX6_lay_55 ?_
      refine lv_ior hx hb dX6_lay_56 ?_
      refine lv_topi (fun v_9 e_v_9 => ?_)
      have hf := bnd_eq hf e_v_9
      obtain ⟨hi_11, hf⟩ := ck_some hf
      obtain ⟨qbi_10, e_qbi_10⟩ : ∃ z : Nat → Int32, z = (upd qbi (x4_7 + (1 : Int32)).toNatClampNeg v_9) := ⟨_, rfl⟩
      have hf := bnd_eq hf e_qbi_10
      refine x_iast X Y 2 rfl rfl hi_11 (ws' := ((WQ Γ Aq qhe qbi_10 qhv qwo qts qbb qbc qbw) ++ (WC Γ Ac csw cca csi cab cun csg cfa che cst))) (by subst e_qbi_10; rfl) dX6_lay_57 (fun H locs Y => ?_)
      refine lv_aload_n hx hb dX6_lay_58 rfl (lv_at hl 1 rfl) ?_
      refine gfX6_18 X Y (v := .ref (Aq 3)) 0 rfl rfl dX6_lay_59 ?_
      refine lv_iload hx hb dX6_lay_62 (lv_at hl 0 rfl) ?_
      refine lv_iconst (v := (1 : Int32)) hx hb dX6_lay_64 (by decide) ?_
      refine lv_iadd hx hb dX6_lay_65 ?_
      refine lv_aload_n hx hb dX6_lay_66 rfl (lv_at hl 1 rfl) ?_
      refine gfX6_18 X Y (v := .ref (Aq 3)) 0 rfl rfl dX6_lay_67 ?_
      refine lv_iload hx hb dX6_lay_70 (lv_at hl 0 rfl) ?_
      obtain ⟨hi_12, hf⟩ := ck_some hf
      refine x_iald X Y 3 rfl rfl hi_12 dX6_lay_72 ?_
      refine lv_aload_n hx hb dX6_lay_73 rfl (lv_at hl 2 rfl) ?_
      refine lv_iload_n hx hb dX6_lay_74 rfl (lv_at hl 3 rfl) ?_
      refine lv_iconst (v := (3 : Int32)) hx hb dX6_lay_75 (by decide) ?_
      obtain ⟨r_13, ho_27, hf⟩ := bd1_some hf
      refine t_i Y (bkE Y [5, 6, 7, 8] rfl) (r_V (As := [.int x2, .int (3 : Int32)]) (rest := [.int (qhv x4_7.toNatClampNeg), .int (x4_7 + (1 : Int32)), .ref (Aq 3)]) X (c_pre X Y [5, 6, 7, 8] rfl rfl) (cC_fact ho_27) (cwX6_49 X (by decide)) (va_recv X.K Y.1 (q := (RX1, TX1, 9)) (q0 := 5) (ci := 1) rfl rfl) rfl hl.1 (Nat.le_of_ble_eq_true rfl) rfl dX6_lay_76 ⟨Nat.zero_le _, Nat.zero_le _⟩) (fun H locs Y => ?_)
      refine lv_iadd hx hb dX6_lay_79 ?_
      refine lv_topi (fun v_14 e_v_14 => ?_)
      have hf := bnd_eq hf e_v_14
      obtain ⟨hi_16, hf⟩ := ck_some hf
      obtain ⟨qhv_15, e_qhv_15⟩ : ∃ z : Nat → Int32, z = (upd qhv (x4_7 + (1 : Int32)).toNatClampNeg v_14) := ⟨_, rfl⟩
      have hf := bnd_eq hf e_qhv_15
      refine x_iast X Y 3 rfl rfl hi_16 (ws' := ((WQ Γ Aq qhe qbi_10 qhv_15 qwo qts qbb qbc qbw) ++ (WC Γ Ac csw cca csi cab cun csg cfa che cst))) (by subst e_qhv_15; rfl) dX6_lay_80 (fun H locs Y => ?_)
      refine lv_aload_n hx hb dX6_lay_81 rfl (lv_at hl 1 rfl) ?_
      refine gfX6_21 X Y (v := .ref (Aq 4)) 0 rfl rfl dX6_lay_82 ?_
      refine lv_iload hx hb dX6_lay_85 (lv_at hl 0 rfl) ?_
      refine lv_iconst (v := (1 : Int32)) hx hb dX6_lay_87 (by decide) ?_
      refine lv_iadd hx hb dX6_lay_88 ?_
      refine lv_aload_n hx hb dX6_lay_89 rfl (lv_at hl 1 rfl) ?_
      refine gfX6_21 X Y (v := .ref (Aq 4)) 0 rfl rfl dX6_lay_90 ?_
      refine lv_iload hx hb dX6_lay_93 (lv_at hl 0 rfl) ?_
      obtain ⟨hi_17, hf⟩ := ck_some hf
      refine x_iald X Y 4 rfl rfl hi_17 dX6_lay_95 ?_
      refine lv_aload_n hx hb dX6_lay_96 rfl (lv_at hl 2 rfl) ?_
      refine lv_iload_n hx hb dX6_lay_97 rfl (lv_at hl 3 rfl) ?_
      refine lv_iconst (v := (4 : Int32)) hx hb dX6_lay_98 (by decide) ?_
      obtain ⟨r_18, ho_26, hf⟩ := bd1_some hf
      refine t_i Y (bkE Y [5, 6, 7, 8] rfl) (r_V (As := [.int x2, .int (4 : Int32)]) (rest := [.int (qwo x4_7.toNatClampNeg), .int (x4_7 + (1 : Int32)), .ref (Aq 4)]) X (c_pre X Y [5, 6, 7, 8] rfl rfl) (cC_fact ho_26) (cwX6_49 X (by decide)) (va_recv X.K Y.1 (q := (RX1, TX1, 9)) (q0 := 5) (ci := 1) rfl rfl) rfl hl.1 (Nat.le_of_ble_eq_true rfl) rfl dX6_lay_99 ⟨Nat.zero_le _, Nat.zero_le _⟩) (fun H locs Y => ?_)
      refine lv_iadd hx hb dX6_lay_102 ?_
      refine lv_topi (fun v_19 e_v_19 => ?_)
      have hf := bnd_eq hf e_v_19
      obtain ⟨hi_21, hf⟩ := ck_some hf
      obtain ⟨qwo_20, e_qwo_20⟩ : ∃ z : Nat → Int32, z = (upd qwo (x4_7 + (1 : Int32)).toNatClampNeg v_19) := ⟨_, rfl⟩
      have hf := bnd_eq hf e_qwo_20
      refine x_iast X Y 4 rfl rfl hi_21 (ws' := ((WQ Γ Aq qhe qbi_10 qhv_15 qwo_20 qts qbb qbc qbw) ++ (WC Γ Ac csw cca csi cab cun csg cfa che cst))) (by subst e_qwo_20; rfl) dX6_lay_103 (fun H locs Y => ?_)
      refine lv_aload_n hx hb dX6_lay_104 rfl (lv_at hl 1 rfl) ?_
      refine gfX6_9 X Y (v := .ref (Aq 1)) 0 rfl rfl dX6_lay_105 ?_
      refine lv_iload_n hx hb dX6_lay_108 rfl (lv_at hl 4 rfl) ?_
      refine lv_dup2_11 hx hb dX6_lay_109 rfl rfl ?_
      obtain ⟨hi_22, hf⟩ := ck_some hf
      refine x_iald X Y 1 rfl rfl hi_22 dX6_lay_110 ?_
      refine lv_iconst (v := (1 : Int32)) hx hb dX6_lay_111 (by decide) ?_
      refine lv_iadd hx hb dX6_lay_112 ?_
      refine lv_topi (fun v_23 e_v_23 => ?_)
      have hf := bnd_eq hf e_v_23
      obtain ⟨hi_25, hf⟩ := ck_some hf
      obtain ⟨qhe_24, e_qhe_24⟩ : ∃ z : Nat → Int32, z = (upd qhe x3.toNatClampNeg v_23) := ⟨_, rfl⟩
      have hf := bnd_eq hf e_qhe_24
      refine x_iast X Y 1 rfl rfl hi_25 (ws' := ((WQ Γ Aq qhe_24 qbi_10 qhv_15 qwo_20 qts qbb qbc qbw) ++ (WC Γ Ac csw cca csi cab cun csg cfa che cst))) (by subst e_qhe_24; rfl) dX6_lay_113 (fun H locs Y => ?_)
      obtain ⟨e90, e91, e92, e93⟩ := sj4 hf
      subst e90
      subst e91
      subst e92
      subst e93
      exact x_vret X Y dX6_lay_114
    · have hf := ite_t hf c_5
      obtain ⟨e90, e91, e92, e93⟩ := sj4 hf
      subst e90
      subst e91
      subst e92
      subst e93
      exact x_vret X Y dX6_lay_24
theorem cQ_lay {l : Launch} {Γ : Gm} {Aq : Nat → Nat} {Ac : Nat → Nat} {qhe : Nat → Int32} {qbi : Nat → Int32} {qhv : Nat → Int32} {qwo : Nat → Int32} {qts : Int32} {qbb : Int32} {qbc : Int32} {qbw : Int32} {csw : Int32} {cca : Int32} {csi : Int32} {cab : Int32} {cun : Int32} {csg : Int32} {cfa : Nat → Int32} {che : Nat → Int32} {cst : Nat → Int32} {qhe_z : Nat → Int32} {qbi_z : Nat → Int32} {qhv_z : Nat → Int32} {qwo_z : Nat → Int32} {x2 : Int32} {x3 : Int32} (h : Q_lay x2 x3 qhe qbi qhv qwo csi cfa = some (qhe_z, qbi_z, qhv_z, qwo_z)) : CV l Γ yX6_lay (Cond.code yX6_lay cX6_lay 5 none :: GW) rmQ_lay [.ref (Aq 0), .ref (Ac 0), .int x2, .int x3] ((WQ Γ Aq qhe qbi qhv qwo qts qbb qbc qbw) ++ (WC Γ Ac csw cca csi cab cun csg cfa che cst)) ((WQ Γ Aq qhe_z qbi_z qhv_z qwo_z qts qbb qbc qbw) ++ (WC Γ Ac csw cca csi cab cun csg cfa che cst)) := ofBody (Qc := QcV Γ _ _) (by decide) (Nat.le_of_ble_eq_true rfl) (fun p e s m below meth c ls _ X Y hl => bQ_lay_e X h Y hl)
theorem dmX6_layV : yX6_lay.cls = RX6 ∧ yX6_lay.cls ≠ "java/lang/invoke/MethodHandle" ∧ yX6_lay.cls ≠ "java/lang/invoke/VarHandle" ∧ (parseMethodDescriptor yX6_lay.desc).map (fun d => d.parameters.length) = some 3 := by decide +kernel
theorem cwX6_38 (X : Cx Γ p s m args meth c RX6 cc nL ret w0) (hR : rmQ_lay.frames + 1 ≤ R.frames ∧ 8 + (5 + 11) + rmQ_lay.locals ≤ R.locals) : CallW R s args RX6 RX6 38 yX6_lay cX6_lay 5 none (Cond.code yX6_lay cX6_lay 5 none :: GW) rmQ_lay 0 0 3 := cw_V X kw387 kw388 kw389 kw368 kw390 dmX6_layV rfl rfl hR
theorem gfX6_42 (X : Cx Γ p s m args meth c RX6 cc nL ret w0) (Y : Wd Γ w0 s ws H locs) {v : Value} (q0 : Nat) {fs : List Value} (he : ws[q0]? = some (a, .inr (1, fs))) (hv : fs[2]? = some v) (hdg : decode cc pc = .ok (.getfield 42, 3)) (kk : W p l e R s m args below meth c H locs cells slots Q (F0 m (pc + 3) ls (v :: rest))) : W p l e R s m args below meth c H locs cells slots Q (F0 m pc ls (.ref a :: rest)) := x_getN X Y iX1 rfl 2 (by decide) rfl kw391 q0 he hv hdg kk
theorem cwX6_45 (X : Cx Γ p s m args meth c RX6 cc nL ret w0) (hR : rmX_isIn.frames + 1 ≤ R.frames ∧ 8 + (2 + 11) + rmX_isIn.locals ≤ R.locals) : va_CN R s args RX6 45 yX11_isIn "ThrownOver" cX11_isIn 2 (some .boolean) (Cond.code yX11_isIn cX11_isIn 2 (some .boolean) :: GW) rmX_isIn 0 0 2 ∧ (Cond.static yX11_isIn).before args s = true ∧ True := cw_SN X kw392 kw242 kw220 kw243 dmX11_isInS rfl rfl hR
def rmQ_pileUp : Room := { frames := 3, cells := 0, slots := 0, locals := 68 }
def Q_pileUp_40 (rc3 : Int32 → Int32 → Int32 → Int32 → (Nat → Int32) → (Nat → Int32) → (Nat → Int32) → (Nat → Int32) → Int32 → (Nat → Int32) → Option ((Nat → Int32) × (Nat → Int32) × (Nat → Int32) × (Nat → Int32))) (rc40 : Int32 → Int32 → Int32 → Int32 → Int32 → (Nat → Int32) → (Nat → Int32) → (Nat → Int32) → (Nat → Int32) → Int32 → (Nat → Int32) → Option ((Nat → Int32) × (Nat → Int32) × (Nat → Int32) × (Nat → Int32))) (x2 : Int32) (x3 : Int32) (x4 : Int32) (x5 : Int32) (x6 : Int32) (qhe : Nat → Int32) (qbi : Nat → Int32) (qhv : Nat → Int32) (qwo : Nat → Int32) (csi : Int32) (cfa : Nat → Int32) : Option ((Nat → Int32) × (Nat → Int32) × (Nat → Int32) × (Nat → Int32)) := if x6 < 0 then (bnd (x5 + (1 : Int32)) (fun (x5_2 : Int32) => rc3 x2 x3 x4 x5_2 qhe qbi qhv qwo csi cfa)) else (if x6 = x3 then (bnd (x6 + (-1 : Int32)) (fun (x6_4 : Int32) => rc40 x2 x3 x4 x5 x6_4 qhe qbi qhv qwo csi cfa)) else (bd1 (X_isIn x2 x6) (fun (r_5 : Int32) => if r_5 = 0 then (bnd (x6 + (-1 : Int32)) (fun (x6_7 : Int32) => rc40 x2 x3 x4 x5 x6_7 qhe qbi qhv qwo csi cfa)) else (bd1 (C_fact x6 (2 : Int32) csi cfa) (fun (r_8 : Int32) => if r_8 = x5 then (bd4 (Q_lay x6 x5 qhe qbi qhv qwo csi cfa) (fun (qhe_11 : Nat → Int32) (qbi_12 : Nat → Int32) (qhv_13 : Nat → Int32) (qwo_14 : Nat → Int32) => bnd (x6 + (-1 : Int32)) (fun (x6_15 : Int32) => rc40 x2 x3 x4 x5 x6_15 qhe_11 qbi_12 qhv_13 qwo_14 csi cfa))) else (bnd (x6 + (-1 : Int32)) (fun (x6_10 : Int32) => rc40 x2 x3 x4 x5 x6_10 qhe qbi qhv qwo csi cfa)))))))
set_option maxHeartbeats 4000000 in
set_option maxRecDepth 100000 in
theorem bQ_pileUp_40 {Aq : Nat → Nat} {Ac : Nat → Nat} {qhe : Nat → Int32} {qbi : Nat → Int32} {qhv : Nat → Int32} {qwo : Nat → Int32} {qts : Int32} {qbb : Int32} {qbc : Int32} {qbw : Int32} {csw : Int32} {cca : Int32} {csi : Int32} {cab : Int32} {cun : Int32} {csg : Int32} {cfa : Nat → Int32} {che : Nat → Int32} {cst : Nat → Int32} {qhe_z : Nat → Int32} {qbi_z : Nat → Int32} {qhv_z : Nat → Int32} {qwo_z : Nat → Int32} {x2 : Int32} {x3 : Int32} {x4 : Int32} {x5 : Int32} {x6 : Int32} {rc3 : Int32 → Int32 → Int32 → Int32 → (Nat → Int32) → (Nat → Int32) → (Nat → Int32) → (Nat → Int32) → Int32 → (Nat → Int32) → Option ((Nat → Int32) × (Nat → Int32) × (Nat → Int32) × (Nat → Int32))} {rc40 : Int32 → Int32 → Int32 → Int32 → Int32 → (Nat → Int32) → (Nat → Int32) → (Nat → Int32) → (Nat → Int32) → Int32 → (Nat → Int32) → Option ((Nat → Int32) × (Nat → Int32) × (Nat → Int32) × (Nat → Int32))} (X : Cx Γ p s m args meth c RX6 cX6_pileUp 7 none w0) (h3 : ∀ (x2 : Int32) (x3 : Int32) (x4 : Int32) (x5 : Int32) (qhe : Nat → Int32) (qbi : Nat → Int32) (qhv : Nat → Int32) (qwo : Nat → Int32) (csi : Int32) (cfa : Nat → Int32), rc3 x2 x3 x4 x5 qhe qbi qhv qwo csi cfa = some (qhe_z, qbi_z, qhv_z, qwo_z) → ∀ (H : Heap) (locs : List Loc) (ls : Array Slot), Wd Γ w0 s ((WQ Γ Aq qhe qbi qhv qwo qts qbb qbc qbw) ++ (WC Γ Ac csw cca csi cab cun csg cfa che cst)) H locs → lv_has ls 7 [(0, .ref (Aq 0)), (1, .ref (Ac 0)), (2, .int x2), (3, .int x3), (4, .int x4), (5, .int x5)] → W p l e rmQ_pileUp s m args below meth c H locs 0 0 (EV Γ below args s w0 ((WQ Γ Aq qhe_z qbi_z qhv_z qwo_z qts qbb qbc qbw) ++ (WC Γ Ac csw cca csi cab cun csg cfa che cst))) (F0 m 3 ls [])) (h40 : ∀ (x2 : Int32) (x3 : Int32) (x4 : Int32) (x5 : Int32) (x6 : Int32) (qhe : Nat → Int32) (qbi : Nat → Int32) (qhv : Nat → Int32) (qwo : Nat → Int32) (csi : Int32) (cfa : Nat → Int32), rc40 x2 x3 x4 x5 x6 qhe qbi qhv qwo csi cfa = some (qhe_z, qbi_z, qhv_z, qwo_z) → ∀ (H : Heap) (locs : List Loc) (ls : Array Slot), Wd Γ w0 s ((WQ Γ Aq qhe qbi qhv qwo qts qbb qbc qbw) ++ (WC Γ Ac csw cca csi cab cun csg cfa che cst)) H locs → lv_has ls 7 [(0, .ref (Aq 0)), (1, .ref (Ac 0)), (2, .int x2), (3, .int x3), (4, .int x4), (5, .int x5), (6, .int x6)] → W p l e rmQ_pileUp s m args below meth c H locs 0 0 (EV Γ below args s w0 ((WQ Γ Aq qhe_z qbi_z qhv_z qwo_z qts qbb qbc qbw) ++ (WC Γ Ac csw cca csi cab cun csg cfa che cst))) (F0 m 40 ls [])) (hf : Q_pileUp_40 rc3 rc40 x2 x3 x4 x5 x6 qhe qbi qhv qwo csi cfa = some (qhe_z, qbi_z, qhv_z, qwo_z)) (Y : Wd Γ w0 s ((WQ Γ Aq qhe qbi qhv qwo qts qbb qbc qbw) ++ (WC Γ Ac csw cca csi cab cun csg cfa che cst)) H locs) (hl : lv_has ls 7 [(0, .ref (Aq 0)), (1, .ref (Ac 0)), (2, .int x2), (3, .int x3), (4, .int x4), (5, .int x5), (6, .int x6)]) : W p l e rmQ_pileUp s m args below meth c H locs 0 0 (EV Γ below args s w0 ((WQ Γ Aq qhe_z qbi_z qhv_z qwo_z qts qbb qbc qbw) ++ (WC Γ Ac csw cca csi cab cun csg cfa che cst))) (F0 m 40 ls []) := by
  have hx := X.1
  have hb := X.2.1
  refine lv_iload hx hb dX6_pileUp_40 (lv_at hl 6 rfl) ?_
  refine lv_if_lt (tgt := 87) hx hb dX6_pileUp_42 (by decide) (fun c_1 => ?_) (fun c_1 => ?_)
  · have hf := ite_t hf c_1
    obtain ⟨x5_2, e_x5_2⟩ : ∃ z : Int32, z = (x5 + (1 : Int32)) := ⟨_, rfl⟩
    have hf := bnd_eq hf e_x5_2
    refine lv_iinc (v := x5_2) (lv' := [(5, .int x5_2), (0, .ref (Aq 0)), (1, .ref (Ac 0)), (2, .int x2), (3, .int x3), (4, .int x4), (6, .int x6)]) hx hb dX6_pileUp_87 hl (k := 5) rfl (by rw [e_x5_2]; rfl) (by decide) rfl (fun ls hl => ?_)
    refine lv_goto (tgt := 3) hx hb dX6_pileUp_90 (by decide) ?_
    exact h3 _ _ _ _ _ _ _ _ _ _ hf _ _ _ Y (lv_sub hl [1, 2, 3, 4, 5, 0] rfl)
  · have hf := ite_f hf c_1
    refine lv_iload hx hb dX6_pileUp_45 (lv_at hl 6 rfl) ?_
    refine lv_iload_n hx hb dX6_pileUp_47 rfl (lv_at hl 3 rfl) ?_
    refine lv_icmp_eq (tgt := 81) hx hb dX6_pileUp_48 (by decide) (fun c_3 => ?_) (fun c_3 => ?_)
    · have hf := ite_t hf c_3
      obtain ⟨x6_4, e_x6_4⟩ : ∃ z : Int32, z = (x6 + (-1 : Int32)) := ⟨_, rfl⟩
      have hf := bnd_eq hf e_x6_4
      refine lv_iinc (v := x6_4) (lv' := [(6, .int x6_4), (0, .ref (Aq 0)), (1, .ref (Ac 0)), (2, .int x2), (3, .int x3), (4, .int x4), (5, .int x5)]) hx hb dX6_pileUp_81 hl (k := 6) rfl (by rw [e_x6_4]; rfl) (by decide) rfl (fun ls hl => ?_)
      refine lv_goto (tgt := 40) hx hb dX6_pileUp_84 (by decide) ?_
      exact h40 _ _ _ _ _ _ _ _ _ _ _ hf _ _ _ Y (lv_sub hl [1, 2, 3, 4, 5, 6, 0] rfl)
    · have hf := ite_f hf c_3
      refine lv_iload_n hx hb dX6_pileUp_51 rfl (lv_at hl 2 rfl) ?_
      refine lv_iload hx hb dX6_pileUp_52 (lv_at hl 6 rfl) ?_
      obtain ⟨r_5, ho_18, hf⟩ := bd1_some hf
      refine t_i Y (bk0 Y) (r_SN (As := [.int x2, .int x6]) (rest := []) X (c_pre0 X Y) (cX_isIn ho_18) (cwX6_45 X (by decide)) rfl hl.1 (Nat.le_of_ble_eq_true rfl) rfl dX6_pileUp_54 ⟨Nat.zero_le _, Nat.zero_le _⟩) (fun H locs Y => ?_)
      refine lv_if_eq (tgt := 81) hx hb dX6_pileUp_57 (by decide) (fun c_6 => ?_) (fun c_6 => ?_)
      · have hf := ite_t hf c_6
        obtain ⟨x6_7, e_x6_7⟩ : ∃ z : Int32, z = (x6 + (-1 : Int32)) := ⟨_, rfl⟩
        have hf := bnd_eq hf e_x6_7
        refine lv_iinc (v := x6_7) (lv' := [(6, .int x6_7), (0, .ref (Aq 0)), (1, .ref (Ac 0)), (2, .int x2), (3, .int x3), (4, .int x4), (5, .int x5)]) hx hb dX6_pileUp_81 hl (k := 6) rfl (by rw [e_x6_7]; rfl) (by decide) rfl (fun ls hl => ?_)
        refine lv_goto (tgt := 40) hx hb dX6_pileUp_84 (by decide) ?_
        exact h40 _ _ _ _ _ _ _ _ _ _ _ hf _ _ _ Y (lv_sub hl [1, 2, 3, 4, 5, 6, 0] rfl)
      · have hf := ite_f hf c_6
        refine lv_aload_n hx hb dX6_pileUp_60 rfl (lv_at hl 1 rfl) ?_
        refine lv_iload hx hb dX6_pileUp_61 (lv_at hl 6 rfl) ?_
        refine lv_iconst (v := (2 : Int32)) hx hb dX6_pileUp_63 (by decide) ?_
        obtain ⟨r_8, ho_17, hf⟩ := bd1_some hf
        refine t_i Y (bkE Y [5, 6, 7, 8] rfl) (r_V (As := [.int x6, .int (2 : Int32)]) (rest := []) X (c_pre X Y [5, 6, 7, 8] rfl rfl) (cC_fact ho_17) (cwX6_49 X (by decide)) (va_recv X.K Y.1 (q := (RX1, TX1, 9)) (q0 := 5) (ci := 1) rfl rfl) rfl hl.1 (Nat.le_of_ble_eq_true rfl) rfl dX6_pileUp_64 ⟨Nat.zero_le _, Nat.zero_le _⟩) (fun H locs Y => ?_)
        refine lv_iload hx hb dX6_pileUp_67 (lv_at hl 5 rfl) ?_
        refine lv_icmp_ne (tgt := 81) hx hb dX6_pileUp_69 (by decide) (fun c_9 => ?_) (fun c_9 => ?_)
        · have hf := ite_f hf c_9
          obtain ⟨x6_10, e_x6_10⟩ : ∃ z : Int32, z = (x6 + (-1 : Int32)) := ⟨_, rfl⟩
          have hf := bnd_eq hf e_x6_10
          refine lv_iinc (v := x6_10) (lv' := [(6, .int x6_10), (0, .ref (Aq 0)), (1, .ref (Ac 0)), (2, .int x2), (3, .int x3), (4, .int x4), (5, .int x5)]) hx hb dX6_pileUp_81 hl (k := 6) rfl (by rw [e_x6_10]; rfl) (by decide) rfl (fun ls hl => ?_)
          refine lv_goto (tgt := 40) hx hb dX6_pileUp_84 (by decide) ?_
          exact h40 _ _ _ _ _ _ _ _ _ _ _ hf _ _ _ Y (lv_sub hl [1, 2, 3, 4, 5, 6, 0] rfl)
        · have hf := ite_t hf c_9
          refine lv_aload_n hx hb dX6_pileUp_72 rfl (lv_at hl 0 rfl) ?_
          refine lv_aload_n hx hb dX6_pileUp_73 rfl (lv_at hl 1 rfl) ?_
          refine lv_iload hx hb dX6_pileUp_74 (lv_at hl 6 rfl) ?_
          refine lv_iload hx hb dX6_pileUp_76 (lv_at hl 5 rfl) ?_
          obtain ⟨qhe_11, qbi_12, qhv_13, qwo_14, ho_16, hf⟩ := bd4_some hf
          refine t_v Y (bkS Y) (r_V (As := [.ref (Ac 0), .int x6, .int x5]) (rest := []) X (c_preS X Y) (cQ_lay ho_16) (cwX6_38 X (by decide)) (va_recv X.K Y.1 (q := (RX6, TX6, 8)) (q0 := 0) (ci := 6) rfl rfl) rfl hl.1 (Nat.le_of_ble_eq_true rfl) rfl dX6_pileUp_78 ⟨Nat.zero_le _, Nat.zero_le _⟩) (fun H locs Y => ?_)
          obtain ⟨x6_15, e_x6_15⟩ : ∃ z : Int32, z = (x6 + (-1 : Int32)) := ⟨_, rfl⟩
          have hf := bnd_eq hf e_x6_15
          refine lv_iinc (v := x6_15) (lv' := [(6, .int x6_15), (0, .ref (Aq 0)), (1, .ref (Ac 0)), (2, .int x2), (3, .int x3), (4, .int x4), (5, .int x5)]) hx hb dX6_pileUp_81 hl (k := 6) rfl (by rw [e_x6_15]; rfl) (by decide) rfl (fun ls hl => ?_)
          refine lv_goto (tgt := 40) hx hb dX6_pileUp_84 (by decide) ?_
          exact h40 _ _ _ _ _ _ _ _ _ _ _ hf _ _ _ Y (lv_sub hl [1, 2, 3, 4, 5, 6, 0] rfl)
def Q_pileUp_L40 (rc3 : Int32 → Int32 → Int32 → Int32 → (Nat → Int32) → (Nat → Int32) → (Nat → Int32) → (Nat → Int32) → Int32 → (Nat → Int32) → Option ((Nat → Int32) × (Nat → Int32) × (Nat → Int32) × (Nat → Int32))) : Nat → Int32 → Int32 → Int32 → Int32 → Int32 → (Nat → Int32) → (Nat → Int32) → (Nat → Int32) → (Nat → Int32) → Int32 → (Nat → Int32) → Option ((Nat → Int32) × (Nat → Int32) × (Nat → Int32) × (Nat → Int32))
  | 0, _, _, _, _, _, _, _, _, _, _, _ => none
  | n + 1, x2, x3, x4, x5, x6, qhe, qbi, qhv, qwo, csi, cfa => Q_pileUp_40 rc3 (Q_pileUp_L40 rc3 n) x2 x3 x4 x5 x6 qhe qbi qhv qwo csi cfa
theorem lQ_pileUp_40 {Aq : Nat → Nat} {Ac : Nat → Nat} {qts : Int32} {qbb : Int32} {qbc : Int32} {qbw : Int32} {csw : Int32} {cca : Int32} {cab : Int32} {cun : Int32} {csg : Int32} {che : Nat → Int32} {cst : Nat → Int32} {qhe_z : Nat → Int32} {qbi_z : Nat → Int32} {qhv_z : Nat → Int32} {qwo_z : Nat → Int32} {rc3 : Int32 → Int32 → Int32 → Int32 → (Nat → Int32) → (Nat → Int32) → (Nat → Int32) → (Nat → Int32) → Int32 → (Nat → Int32) → Option ((Nat → Int32) × (Nat → Int32) × (Nat → Int32) × (Nat → Int32))} (X : Cx Γ p s m args meth c RX6 cX6_pileUp 7 none w0) (h3 : ∀ (x2 : Int32) (x3 : Int32) (x4 : Int32) (x5 : Int32) (qhe : Nat → Int32) (qbi : Nat → Int32) (qhv : Nat → Int32) (qwo : Nat → Int32) (csi : Int32) (cfa : Nat → Int32), rc3 x2 x3 x4 x5 qhe qbi qhv qwo csi cfa = some (qhe_z, qbi_z, qhv_z, qwo_z) → ∀ (H : Heap) (locs : List Loc) (ls : Array Slot), Wd Γ w0 s ((WQ Γ Aq qhe qbi qhv qwo qts qbb qbc qbw) ++ (WC Γ Ac csw cca csi cab cun csg cfa che cst)) H locs → lv_has ls 7 [(0, .ref (Aq 0)), (1, .ref (Ac 0)), (2, .int x2), (3, .int x3), (4, .int x4), (5, .int x5)] → W p l e rmQ_pileUp s m args below meth c H locs 0 0 (EV Γ below args s w0 ((WQ Γ Aq qhe_z qbi_z qhv_z qwo_z qts qbb qbc qbw) ++ (WC Γ Ac csw cca csi cab cun csg cfa che cst))) (F0 m 3 ls [])) : ∀ (n : Nat) (x2 : Int32) (x3 : Int32) (x4 : Int32) (x5 : Int32) (x6 : Int32) (qhe : Nat → Int32) (qbi : Nat → Int32) (qhv : Nat → Int32) (qwo : Nat → Int32) (csi : Int32) (cfa : Nat → Int32), Q_pileUp_L40 rc3 n x2 x3 x4 x5 x6 qhe qbi qhv qwo csi cfa = some (qhe_z, qbi_z, qhv_z, qwo_z) → ∀ (H : Heap) (locs : List Loc) (ls : Array Slot), Wd Γ w0 s ((WQ Γ Aq qhe qbi qhv qwo qts qbb qbc qbw) ++ (WC Γ Ac csw cca csi cab cun csg cfa che cst)) H locs → lv_has ls 7 [(0, .ref (Aq 0)), (1, .ref (Ac 0)), (2, .int x2), (3, .int x3), (4, .int x4), (5, .int x5), (6, .int x6)] → W p l e rmQ_pileUp s m args below meth c H locs 0 0 (EV Γ below args s w0 ((WQ Γ Aq qhe_z qbi_z qhv_z qwo_z qts qbb qbc qbw) ++ (WC Γ Ac csw cca csi cab cun csg cfa che cst))) (F0 m 40 ls []) := by
  intro n
  induction n with
  | zero => intro x2 x3 x4 x5 x6 qhe qbi qhv qwo csi cfa hf; cases hf
  | succ n ih => intro x2 x3 x4 x5 x6 qhe qbi qhv qwo csi cfa hf H locs ls Y hl; exact bQ_pileUp_40 X h3 ih hf Y hl
def Q_pileUp_32 (rc3 : Int32 → Int32 → Int32 → Int32 → (Nat → Int32) → (Nat → Int32) → (Nat → Int32) → (Nat → Int32) → Int32 → (Nat → Int32) → Option ((Nat → Int32) × (Nat → Int32) × (Nat → Int32) × (Nat → Int32))) (x2 : Int32) (x3 : Int32) (x4 : Int32) (x5 : Int32) (qhe : Nat → Int32) (qbi : Nat → Int32) (qhv : Nat → Int32) (qwo : Nat → Int32) (csi : Int32) (cfa : Nat → Int32) : Option ((Nat → Int32) × (Nat → Int32) × (Nat → Int32) × (Nat → Int32)) := bnd (csi - (1 : Int32)) (fun (x6_1 : Int32) => Q_pileUp_L40 rc3 FU x2 x3 x4 x5 x6_1 qhe qbi qhv qwo csi cfa)
set_option maxHeartbeats 4000000 in
set_option maxRecDepth 100000 in
theorem bQ_pileUp_32 {Aq : Nat → Nat} {Ac : Nat → Nat} {qhe : Nat → Int32} {qbi : Nat → Int32} {qhv : Nat → Int32} {qwo : Nat → Int32} {qts : Int32} {qbb : Int32} {qbc : Int32} {qbw : Int32} {csw : Int32} {cca : Int32} {csi : Int32} {cab : Int32} {cun : Int32} {csg : Int32} {cfa : Nat → Int32} {che : Nat → Int32} {cst : Nat → Int32} {qhe_z : Nat → Int32} {qbi_z : Nat → Int32} {qhv_z : Nat → Int32} {qwo_z : Nat → Int32} {x2 : Int32} {x3 : Int32} {x4 : Int32} {x5 : Int32} {rc3 : Int32 → Int32 → Int32 → Int32 → (Nat → Int32) → (Nat → Int32) → (Nat → Int32) → (Nat → Int32) → Int32 → (Nat → Int32) → Option ((Nat → Int32) × (Nat → Int32) × (Nat → Int32) × (Nat → Int32))} (X : Cx Γ p s m args meth c RX6 cX6_pileUp 7 none w0) (h3 : ∀ (x2 : Int32) (x3 : Int32) (x4 : Int32) (x5 : Int32) (qhe : Nat → Int32) (qbi : Nat → Int32) (qhv : Nat → Int32) (qwo : Nat → Int32) (csi : Int32) (cfa : Nat → Int32), rc3 x2 x3 x4 x5 qhe qbi qhv qwo csi cfa = some (qhe_z, qbi_z, qhv_z, qwo_z) → ∀ (H : Heap) (locs : List Loc) (ls : Array Slot), Wd Γ w0 s ((WQ Γ Aq qhe qbi qhv qwo qts qbb qbc qbw) ++ (WC Γ Ac csw cca csi cab cun csg cfa che cst)) H locs → lv_has ls 7 [(0, .ref (Aq 0)), (1, .ref (Ac 0)), (2, .int x2), (3, .int x3), (4, .int x4), (5, .int x5)] → W p l e rmQ_pileUp s m args below meth c H locs 0 0 (EV Γ below args s w0 ((WQ Γ Aq qhe_z qbi_z qhv_z qwo_z qts qbb qbc qbw) ++ (WC Γ Ac csw cca csi cab cun csg cfa che cst))) (F0 m 3 ls [])) (hf : Q_pileUp_32 rc3 x2 x3 x4 x5 qhe qbi qhv qwo csi cfa = some (qhe_z, qbi_z, qhv_z, qwo_z)) (Y : Wd Γ w0 s ((WQ Γ Aq qhe qbi qhv qwo qts qbb qbc qbw) ++ (WC Γ Ac csw cca csi cab cun csg cfa che cst)) H locs) (hl : lv_has ls 7 [(0, .ref (Aq 0)), (1, .ref (Ac 0)), (2, .int x2), (3, .int x3), (4, .int x4), (5, .int x5)]) : W p l e rmQ_pileUp s m args below meth c H locs 0 0 (EV Γ below args s w0 ((WQ Γ Aq qhe_z qbi_z qhv_z qwo_z qts qbb qbc qbw) ++ (WC Γ Ac csw cca csi cab cun csg cfa che cst))) (F0 m 32 ls []) := by
  have hx := X.1
  have hb := X.2.1
  refine lv_aload_n hx hb dX6_pileUp_32 rfl (lv_at hl 1 rfl) ?_
  refine gfX6_42 X Y (v := .int csi) 5 rfl rfl dX6_pileUp_33 ?_
  refine lv_iconst (v := (1 : Int32)) hx hb dX6_pileUp_36 (by decide) ?_
  refine lv_isub hx hb dX6_pileUp_37 ?_
  refine lv_topi (fun x6_1 e_x6_1 => ?_)
  have hf := bnd_eq hf e_x6_1
  refine lv_istore (lv' := [(6, .int x6_1), (0, .ref (Aq 0)), (1, .ref (Ac 0)), (2, .int x2), (3, .int x3), (4, .int x4), (5, .int x5)]) hx hb dX6_pileUp_38 hl (by decide) rfl (fun ls hl => ?_)
  exact lQ_pileUp_40 X h3 _ _ _ _ _ _ _ _ _ _ _ _ hf _ _ _ Y (lv_sub hl [1, 2, 3, 4, 5, 6, 0] rfl)
def Q_pileUp_3 (rc3 : Int32 → Int32 → Int32 → Int32 → (Nat → Int32) → (Nat → Int32) → (Nat → Int32) → (Nat → Int32) → Int32 → (Nat → Int32) → Option ((Nat → Int32) × (Nat → Int32) × (Nat → Int32) × (Nat → Int32))) (x2 : Int32) (x3 : Int32) (x4 : Int32) (x5 : Int32) (qhe : Nat → Int32) (qbi : Nat → Int32) (qhv : Nat → Int32) (qwo : Nat → Int32) (csi : Int32) (cfa : Nat → Int32) : Option ((Nat → Int32) × (Nat → Int32) × (Nat → Int32) × (Nat → Int32)) := if (3 : Int32) ≤ x5 then (some (qhe, qbi, qhv, qwo)) else (ck (inb x5 3) (bnd (upd qhe x5.toNatClampNeg (0 : Int32)) (fun (qhe_2 : Nat → Int32) => if x5 = x4 then (bd4 (Q_lay x3 x5 qhe_2 qbi qhv qwo csi cfa) (fun (qhe_5 : Nat → Int32) (qbi_6 : Nat → Int32) (qhv_7 : Nat → Int32) (qwo_8 : Nat → Int32) => Q_pileUp_32 rc3 x2 x3 x4 x5 qhe_5 qbi_6 qhv_7 qwo_8 csi cfa)) else (Q_pileUp_32 rc3 x2 x3 x4 x5 qhe_2 qbi qhv qwo csi cfa))))
set_option maxHeartbeats 4000000 in
set_option maxRecDepth 100000 in
theorem bQ_pileUp_3 {Aq : Nat → Nat} {Ac : Nat → Nat} {qhe : Nat → Int32} {qbi : Nat → Int32} {qhv : Nat → Int32} {qwo : Nat → Int32} {qts : Int32} {qbb : Int32} {qbc : Int32} {qbw : Int32} {csw : Int32} {cca : Int32} {csi : Int32} {cab : Int32} {cun : Int32} {csg : Int32} {cfa : Nat → Int32} {che : Nat → Int32} {cst : Nat → Int32} {qhe_z : Nat → Int32} {qbi_z : Nat → Int32} {qhv_z : Nat → Int32} {qwo_z : Nat → Int32} {x2 : Int32} {x3 : Int32} {x4 : Int32} {x5 : Int32} {rc3 : Int32 → Int32 → Int32 → Int32 → (Nat → Int32) → (Nat → Int32) → (Nat → Int32) → (Nat → Int32) → Int32 → (Nat → Int32) → Option ((Nat → Int32) × (Nat → Int32) × (Nat → Int32) × (Nat → Int32))} (X : Cx Γ p s m args meth c RX6 cX6_pileUp 7 none w0) (h3 : ∀ (x2 : Int32) (x3 : Int32) (x4 : Int32) (x5 : Int32) (qhe : Nat → Int32) (qbi : Nat → Int32) (qhv : Nat → Int32) (qwo : Nat → Int32) (csi : Int32) (cfa : Nat → Int32), rc3 x2 x3 x4 x5 qhe qbi qhv qwo csi cfa = some (qhe_z, qbi_z, qhv_z, qwo_z) → ∀ (H : Heap) (locs : List Loc) (ls : Array Slot), Wd Γ w0 s ((WQ Γ Aq qhe qbi qhv qwo qts qbb qbc qbw) ++ (WC Γ Ac csw cca csi cab cun csg cfa che cst)) H locs → lv_has ls 7 [(0, .ref (Aq 0)), (1, .ref (Ac 0)), (2, .int x2), (3, .int x3), (4, .int x4), (5, .int x5)] → W p l e rmQ_pileUp s m args below meth c H locs 0 0 (EV Γ below args s w0 ((WQ Γ Aq qhe_z qbi_z qhv_z qwo_z qts qbb qbc qbw) ++ (WC Γ Ac csw cca csi cab cun csg cfa che cst))) (F0 m 3 ls [])) (hf : Q_pileUp_3 rc3 x2 x3 x4 x5 qhe qbi qhv qwo csi cfa = some (qhe_z, qbi_z, qhv_z, qwo_z)) (Y : Wd Γ w0 s ((WQ Γ Aq qhe qbi qhv qwo qts qbb qbc qbw) ++ (WC Γ Ac csw cca csi cab cun csg cfa che cst)) H locs) (hl : lv_has ls 7 [(0, .ref (Aq 0)), (1, .ref (Ac 0)), (2, .int x2), (3, .int x3), (4, .int x4), (5, .int x5)]) : W p l e rmQ_pileUp s m args below meth c H locs 0 0 (EV Γ below args s w0 ((WQ Γ Aq qhe_z qbi_z qhv_z qwo_z qts qbb qbc qbw) ++ (WC Γ Ac csw cca csi cab cun csg cfa che cst))) (F0 m 3 ls []) := by
  have hx := X.1
  have hb := X.2.1
  refine lv_iload hx hb dX6_pileUp_3 (lv_at hl 5 rfl) ?_
  refine lv_iconst (v := (3 : Int32)) hx hb dX6_pileUp_5 (by decide) ?_
  refine lv_icmp_ge (tgt := 93) hx hb dX6_pileUp_6 (by decide) (fun c_1 => ?_) (fun c_1 => ?_)
  · have hf := ite_t hf c_1
    obtain ⟨e90, e91, e92, e93⟩ := sj4 hf
    subst e90
    subst e91
    subst e92
    subst e93
    exact x_vret X Y dX6_pileUp_93
  · have hf := ite_f hf c_1
    refine lv_aload_n hx hb dX6_pileUp_9 rfl (lv_at hl 0 rfl) ?_
    refine gfX6_9 X Y (v := .ref (Aq 1)) 0 rfl rfl dX6_pileUp_10 ?_
    refine lv_iload hx hb dX6_pileUp_13 (lv_at hl 5 rfl) ?_
    refine lv_iconst (v := (0 : Int32)) hx hb dX6_pileUp_15 (by decide) ?_
    obtain ⟨hi_3, hf⟩ := ck_some hf
    obtain ⟨qhe_2, e_qhe_2⟩ : ∃ z : Nat → Int32, z = (upd qhe x5.toNatClampNeg (0 : Int32)) := ⟨_, rfl⟩
    have hf := bnd_eq hf e_qhe_2
    refine x_iast X Y 1 rfl rfl hi_3 (ws' := ((WQ Γ Aq qhe_2 qbi qhv qwo qts qbb qbc qbw) ++ (WC Γ Ac csw cca csi cab cun csg cfa che cst))) (by subst e_qhe_2; rfl) dX6_pileUp_16 (fun H locs Y => ?_)
    refine lv_iload hx hb dX6_pileUp_17 (lv_at hl 5 rfl) ?_
    refine lv_iload hx hb dX6_pileUp_19 (lv_at hl 4 rfl) ?_
    refine lv_icmp_ne (tgt := 32) hx hb dX6_pileUp_21 (by decide) (fun c_4 => ?_) (fun c_4 => ?_)
    · have hf := ite_f hf c_4
      exact bQ_pileUp_32 X h3 hf Y (lv_sub hl [0, 1, 2, 3, 4, 5] rfl)
    · have hf := ite_t hf c_4
      refine lv_aload_n hx hb dX6_pileUp_24 rfl (lv_at hl 0 rfl) ?_
      refine lv_aload_n hx hb dX6_pileUp_25 rfl (lv_at hl 1 rfl) ?_
      refine lv_iload_n hx hb dX6_pileUp_26 rfl (lv_at hl 3 rfl) ?_
      refine lv_iload hx hb dX6_pileUp_27 (lv_at hl 5 rfl) ?_
      obtain ⟨qhe_5, qbi_6, qhv_7, qwo_8, ho_9, hf⟩ := bd4_some hf
      refine t_v Y (bkS Y) (r_V (As := [.ref (Ac 0), .int x3, .int x5]) (rest := []) X (c_preS X Y) (cQ_lay ho_9) (cwX6_38 X (by decide)) (va_recv X.K Y.1 (q := (RX6, TX6, 8)) (q0 := 0) (ci := 6) rfl rfl) rfl hl.1 (Nat.le_of_ble_eq_true rfl) rfl dX6_pileUp_29 ⟨Nat.zero_le _, Nat.zero_le _⟩) (fun H locs Y => ?_)
      exact bQ_pileUp_32 X h3 hf Y (lv_sub hl [0, 1, 2, 3, 4, 5] rfl)
def Q_pileUp_L3 : Nat → Int32 → Int32 → Int32 → Int32 → (Nat → Int32) → (Nat → Int32) → (Nat → Int32) → (Nat → Int32) → Int32 → (Nat → Int32) → Option ((Nat → Int32) × (Nat → Int32) × (Nat → Int32) × (Nat → Int32))
  | 0, _, _, _, _, _, _, _, _, _, _ => none
  | n + 1, x2, x3, x4, x5, qhe, qbi, qhv, qwo, csi, cfa => Q_pileUp_3 (Q_pileUp_L3 n) x2 x3 x4 x5 qhe qbi qhv qwo csi cfa
theorem lQ_pileUp_3 {Aq : Nat → Nat} {Ac : Nat → Nat} {qts : Int32} {qbb : Int32} {qbc : Int32} {qbw : Int32} {csw : Int32} {cca : Int32} {cab : Int32} {cun : Int32} {csg : Int32} {che : Nat → Int32} {cst : Nat → Int32} {qhe_z : Nat → Int32} {qbi_z : Nat → Int32} {qhv_z : Nat → Int32} {qwo_z : Nat → Int32} (X : Cx Γ p s m args meth c RX6 cX6_pileUp 7 none w0) : ∀ (n : Nat) (x2 : Int32) (x3 : Int32) (x4 : Int32) (x5 : Int32) (qhe : Nat → Int32) (qbi : Nat → Int32) (qhv : Nat → Int32) (qwo : Nat → Int32) (csi : Int32) (cfa : Nat → Int32), Q_pileUp_L3 n x2 x3 x4 x5 qhe qbi qhv qwo csi cfa = some (qhe_z, qbi_z, qhv_z, qwo_z) → ∀ (H : Heap) (locs : List Loc) (ls : Array Slot), Wd Γ w0 s ((WQ Γ Aq qhe qbi qhv qwo qts qbb qbc qbw) ++ (WC Γ Ac csw cca csi cab cun csg cfa che cst)) H locs → lv_has ls 7 [(0, .ref (Aq 0)), (1, .ref (Ac 0)), (2, .int x2), (3, .int x3), (4, .int x4), (5, .int x5)] → W p l e rmQ_pileUp s m args below meth c H locs 0 0 (EV Γ below args s w0 ((WQ Γ Aq qhe_z qbi_z qhv_z qwo_z qts qbb qbc qbw) ++ (WC Γ Ac csw cca csi cab cun csg cfa che cst))) (F0 m 3 ls []) := by
  intro n
  induction n with
  | zero => intro x2 x3 x4 x5 qhe qbi qhv qwo csi cfa hf; cases hf
  | succ n ih => intro x2 x3 x4 x5 qhe qbi qhv qwo csi cfa hf H locs ls Y hl; exact bQ_pileUp_3 X ih hf Y hl
def Q_pileUp (x2 : Int32) (x3 : Int32) (x4 : Int32) (qhe : Nat → Int32) (qbi : Nat → Int32) (qhv : Nat → Int32) (qwo : Nat → Int32) (csi : Int32) (cfa : Nat → Int32) : Option ((Nat → Int32) × (Nat → Int32) × (Nat → Int32) × (Nat → Int32)) := Q_pileUp_L3 FU x2 x3 x4 (0 : Int32) qhe qbi qhv qwo csi cfa
set_option maxHeartbeats 4000000 in
set_option maxRecDepth 100000 in
theorem bQ_pileUp_e {Aq : Nat → Nat} {Ac : Nat → Nat} {qhe : Nat → Int32} {qbi : Nat → Int32} {qhv : Nat → Int32} {qwo : Nat → Int32} {qts : Int32} {qbb : Int32} {qbc : Int32} {qbw : Int32} {csw : Int32} {cca : Int32} {csi : Int32} {cab : Int32} {cun : Int32} {csg : Int32} {cfa : Nat → Int32} {che : Nat → Int32} {cst : Nat → Int32} {qhe_z : Nat → Int32} {qbi_z : Nat → Int32} {qhv_z : Nat → Int32} {qwo_z : Nat → Int32} {x2 : Int32} {x3 : Int32} {x4 : Int32} (X : Cx Γ p s m args meth c RX6 cX6_pileUp 7 none w0) (hf : Q_pileUp x2 x3 x4 qhe qbi qhv qwo csi cfa = some (qhe_z, qbi_z, qhv_z, qwo_z)) (Y : Wd Γ w0 s ((WQ Γ Aq qhe qbi qhv qwo qts qbb qbc qbw) ++ (WC Γ Ac csw cca csi cab cun csg cfa che cst)) H locs) (hl : lv_has ls 7 [(0, .ref (Aq 0)), (1, .ref (Ac 0)), (2, .int x2), (3, .int x3), (4, .int x4)]) : W p l e rmQ_pileUp s m args below meth c H locs 0 0 (EV Γ below args s w0 ((WQ Γ Aq qhe_z qbi_z qhv_z qwo_z qts qbb qbc qbw) ++ (WC Γ Ac csw cca csi cab cun csg cfa che cst))) (F0 m 0 ls []) := by
  have hx := X.1
  have hb := X.2.1
  refine lv_iconst (v := (0 : Int32)) hx hb dX6_pileUp_0 (by decide) ?_
  refine lv_istore (lv' := [(5, .int (0 : Int32)), (0, .ref (Aq 0)), (1, .ref (Ac 0)), (2, .int x2), (3, .int x3), (4, .int x4)]) hx hb dX6_pileUp_1 hl (by decide) rfl (fun ls hl => ?_)
  exact lQ_pileUp_3 X _ _ _ _ _ _ _ _ _ _ _ hf _ _ _ Y (lv_sub hl [1, 2, 3, 4, 5, 0] rfl)
theorem cQ_pileUp {l : Launch} {Γ : Gm} {Aq : Nat → Nat} {Ac : Nat → Nat} {qhe : Nat → Int32} {qbi : Nat → Int32} {qhv : Nat → Int32} {qwo : Nat → Int32} {qts : Int32} {qbb : Int32} {qbc : Int32} {qbw : Int32} {csw : Int32} {cca : Int32} {csi : Int32} {cab : Int32} {cun : Int32} {csg : Int32} {cfa : Nat → Int32} {che : Nat → Int32} {cst : Nat → Int32} {qhe_z : Nat → Int32} {qbi_z : Nat → Int32} {qhv_z : Nat → Int32} {qwo_z : Nat → Int32} {x2 : Int32} {x3 : Int32} {x4 : Int32} (h : Q_pileUp x2 x3 x4 qhe qbi qhv qwo csi cfa = some (qhe_z, qbi_z, qhv_z, qwo_z)) : CV l Γ yX6_pileUp (Cond.code yX6_pileUp cX6_pileUp 7 none :: GW) rmQ_pileUp [.ref (Aq 0), .ref (Ac 0), .int x2, .int x3, .int x4] ((WQ Γ Aq qhe qbi qhv qwo qts qbb qbc qbw) ++ (WC Γ Ac csw cca csi cab cun csg cfa che cst)) ((WQ Γ Aq qhe_z qbi_z qhv_z qwo_z qts qbb qbc qbw) ++ (WC Γ Ac csw cca csi cab cun csg cfa che cst)) := ofBody (Qc := QcV Γ _ _) (by decide) (Nat.le_of_ble_eq_true rfl) (fun p e s m below meth c ls _ X Y hl => bQ_pileUp_e X h Y hl)
theorem dmX6_chooseV : yX6_choose.cls = RX6 ∧ yX6_choose.cls ≠ "java/lang/invoke/MethodHandle" ∧ yX6_choose.cls ≠ "java/lang/invoke/VarHandle" ∧ (parseMethodDescriptor yX6_choose.desc).map (fun d => d.parameters.length) = some 3 := by decide +kernel
theorem cwX6_28 (X : Cx Γ p s m args meth c RX6 cc nL ret w0) (hR : rmQ_choose.frames + 1 ≤ R.frames ∧ 8 + (7 + 11) + rmQ_choose.locals ≤ R.locals) : CallW R s args RX6 RX6 28 yX6_choose cX6_choose 7 (some .int) (Cond.code yX6_choose cX6_choose 7 (some .int) :: GW) rmQ_choose 0 0 3 := cw_V X kw393 kw394 kw395 kw368 kw396 dmX6_chooseV rfl rfl hR
theorem dmX6_pileUpV : yX6_pileUp.cls = RX6 ∧ yX6_pileUp.cls ≠ "java/lang/invoke/MethodHandle" ∧ yX6_pileUp.cls ≠ "java/lang/invoke/VarHandle" ∧ (parseMethodDescriptor yX6_pileUp.desc).map (fun d => d.parameters.length) = some 4 := by decide +kernel
theorem cwX6_24 (X : Cx Γ p s m args meth c RX6 cc nL ret w0) (hR : rmQ_pileUp.frames + 1 ≤ R.frames ∧ 8 + (7 + 11) + rmQ_pileUp.locals ≤ R.locals) : CallW R s args RX6 RX6 24 yX6_pileUp cX6_pileUp 7 none (Cond.code yX6_pileUp cX6_pileUp 7 none :: GW) rmQ_pileUp 0 0 4 := cw_V X kw397 kw398 kw399 kw368 kw400 dmX6_pileUpV rfl rfl hR
def rmQ_find : Room := { frames := 4, cells := 0, slots := 0, locals := 98 }
def Q_find (x2 : Int32) (x3 : Int32) (qhe : Nat → Int32) (qbi : Nat → Int32) (qhv : Nat → Int32) (qwo : Nat → Int32) (qts : Int32) (qbb : Int32) (qbc : Int32) (qbw : Int32) (cca : Int32) (csi : Int32) (cfa : Nat → Int32) : Option (Int32 × (Nat → Int32) × (Nat → Int32) × (Nat → Int32) × (Nat → Int32) × Int32 × Int32 × Int32 × Int32) := bd4 (Q_pileUp x2 (-1 : Int32) (-1 : Int32) qhe qbi qhv qwo csi cfa) (fun (qhe_1 : Nat → Int32) (qbi_2 : Nat → Int32) (qhv_3 : Nat → Int32) (qwo_4 : Nat → Int32) => bd5 (Q_choose x2 x3 qhe_1 qbi_2 qhv_3 qwo_4 qts qbb qbc qbw cca csi cfa) (fun (r_5 : Int32) (qts_6 : Int32) (qbb_7 : Int32) (qbc_8 : Int32) (qbw_9 : Int32) => some (r_5, qhe_1, qbi_2, qhv_3, qwo_4, qts_6, qbb_7, qbc_8, qbw_9)))
set_option maxHeartbeats 4000000 in
set_option maxRecDepth 100000 in
theorem bQ_find_e {Aq : Nat → Nat} {Ac : Nat → Nat} {qhe : Nat → Int32} {qbi : Nat → Int32} {qhv : Nat → Int32} {qwo : Nat → Int32} {qts : Int32} {qbb : Int32} {qbc : Int32} {qbw : Int32} {csw : Int32} {cca : Int32} {csi : Int32} {cab : Int32} {cun : Int32} {csg : Int32} {cfa : Nat → Int32} {che : Nat → Int32} {cst : Nat → Int32} {qhe_z : Nat → Int32} {qbi_z : Nat → Int32} {qhv_z : Nat → Int32} {qwo_z : Nat → Int32} {qts_z : Int32} {qbb_z : Int32} {qbc_z : Int32} {qbw_z : Int32} {r0 : Int32} {x2 : Int32} {x3 : Int32} (X : Cx Γ p s m args meth c RX6 cX6_find 4 (some .int) w0) (hf : Q_find x2 x3 qhe qbi qhv qwo qts qbb qbc qbw cca csi cfa = some (r0, qhe_z, qbi_z, qhv_z, qwo_z, qts_z, qbb_z, qbc_z, qbw_z)) (Y : Wd Γ w0 s ((WQ Γ Aq qhe qbi qhv qwo qts qbb qbc qbw) ++ (WC Γ Ac csw cca csi cab cun csg cfa che cst)) H locs) (hl : lv_has ls 4 [(0, .ref (Aq 0)), (1, .ref (Ac 0)), (2, .int x2), (3, .int x3)]) : W p l e rmQ_find s m args below meth c H locs 0 0 (EI Γ below args s w0 ((WQ Γ Aq qhe_z qbi_z qhv_z qwo_z qts_z qbb_z qbc_z qbw_z) ++ (WC Γ Ac csw cca csi cab cun csg cfa che cst)) r0) (F0 m 0 ls []) := by
  have hx := X.1
  have hb := X.2.1
  refine lv_aload_n hx hb dX6_find_0 rfl (lv_at hl 0 rfl) ?_
  refine lv_aload_n hx hb dX6_find_1 rfl (lv_at hl 1 rfl) ?_
  refine lv_iload_n hx hb dX6_find_2 rfl (lv_at hl 2 rfl) ?_
  refine lv_iconst (v := (-1 : Int32)) hx hb dX6_find_3 (by decide) ?_
  refine lv_iconst (v := (-1 : Int32)) hx hb dX6_find_4 (by decide) ?_
  obtain ⟨qhe_1, qbi_2, qhv_3, qwo_4, ho_11, hf⟩ := bd4_some hf
  refine t_v Y (bkS Y) (r_V (As := [.ref (Ac 0), .int x2, .int (-1 : Int32), .int (-1 : Int32)]) (rest := []) X (c_preS X Y) (cQ_pileUp ho_11) (cwX6_24 X (by decide)) (va_recv X.K Y.1 (q := (RX6, TX6, 8)) (q0 := 0) (ci := 6) rfl rfl) rfl hl.1 (Nat.le_of_ble_eq_true rfl) rfl dX6_find_5 ⟨Nat.zero_le _, Nat.zero_le _⟩) (fun H locs Y => ?_)
  refine lv_aload_n hx hb dX6_find_8 rfl (lv_at hl 0 rfl) ?_
  refine lv_aload_n hx hb dX6_find_9 rfl (lv_at hl 1 rfl) ?_
  refine lv_iload_n hx hb dX6_find_10 rfl (lv_at hl 2 rfl) ?_
  refine lv_iload_n hx hb dX6_find_11 rfl (lv_at hl 3 rfl) ?_
  obtain ⟨r_5, qts_6, qbb_7, qbc_8, qbw_9, ho_10, hf⟩ := bd5_some hf
  refine t_i Y (bkS Y) (r_V (As := [.ref (Ac 0), .int x2, .int x3]) (rest := []) X (c_preS X Y) (cQ_choose ho_10) (cwX6_28 X (by decide)) (va_recv X.K Y.1 (q := (RX6, TX6, 8)) (q0 := 0) (ci := 6) rfl rfl) rfl hl.1 (Nat.le_of_ble_eq_true rfl) rfl dX6_find_12 ⟨Nat.zero_le _, Nat.zero_le _⟩) (fun H locs Y => ?_)
  obtain ⟨e90, e91, e92, e93, e94, e95, e96, e97, e98⟩ := sj9 hf
  subst e90
  subst e91
  subst e92
  subst e93
  subst e94
  subst e95
  subst e96
  subst e97
  subst e98
  exact x_iret X Y dX6_find_15
theorem cQ_find {l : Launch} {Γ : Gm} {Aq : Nat → Nat} {Ac : Nat → Nat} {qhe : Nat → Int32} {qbi : Nat → Int32} {qhv : Nat → Int32} {qwo : Nat → Int32} {qts : Int32} {qbb : Int32} {qbc : Int32} {qbw : Int32} {csw : Int32} {cca : Int32} {csi : Int32} {cab : Int32} {cun : Int32} {csg : Int32} {cfa : Nat → Int32} {che : Nat → Int32} {cst : Nat → Int32} {qhe_z : Nat → Int32} {qbi_z : Nat → Int32} {qhv_z : Nat → Int32} {qwo_z : Nat → Int32} {qts_z : Int32} {qbb_z : Int32} {qbc_z : Int32} {qbw_z : Int32} {r0 : Int32} {x2 : Int32} {x3 : Int32} (h : Q_find x2 x3 qhe qbi qhv qwo qts qbb qbc qbw cca csi cfa = some (r0, qhe_z, qbi_z, qhv_z, qwo_z, qts_z, qbb_z, qbc_z, qbw_z)) : CI l Γ yX6_find (Cond.code yX6_find cX6_find 4 (some .int) :: GW) rmQ_find [.ref (Aq 0), .ref (Ac 0), .int x2, .int x3] ((WQ Γ Aq qhe qbi qhv qwo qts qbb qbc qbw) ++ (WC Γ Ac csw cca csi cab cun csg cfa che cst)) ((WQ Γ Aq qhe_z qbi_z qhv_z qwo_z qts_z qbb_z qbc_z qbw_z) ++ (WC Γ Ac csw cca csi cab cun csg cfa che cst)) r0 := ofBody (Qc := QcI Γ _ _ r0) (by decide) (Nat.le_of_ble_eq_true rfl) (fun p e s m below meth c ls _ X Y hl => bQ_find_e X h Y hl)
end
