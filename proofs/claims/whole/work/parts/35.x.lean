section
variable {p : Program} {l : Launch} {e : Env} {R : Room} {s : State} {m : MethodId} {args : Array Value} {below : List Frame} {meth : Method} {c : Code} {H : Heap} {locs : List Loc} {Q : State → Prop} {cells slots : Nat}
variable {Γ : Gm} {own : String} {cc : ByteArray} {nL : Nat} {ret : Option FieldType} {w0 ws ws' : va_W} {pc : Nat} {ls : Array Slot} {rest : List Value} {a : Nat}
theorem gfX11_10 (X : Cx Γ p s m args meth c RX11 cc nL ret w0) (Y : Wd Γ w0 s ws H locs) {v : Value} (q0 : Nat) {fs : List Value} (he : ws[q0]? = some (a, .inr (11, fs))) (hv : fs[0]? = some v) (hdg : decode cc pc = .ok (.getfield 10, 3)) (kk : W p l e R s m args below meth c H locs cells slots Q (F0 m (pc + 3) ls (v :: rest))) : W p l e R s m args below meth c H locs cells slots Q (F0 m pc ls (.ref a :: rest)) := x_get X Y iX11 rfl 0 (by decide) rfl kw486 q0 he hv hdg kk
theorem gfX11_75 (X : Cx Γ p s m args meth c RX11 cc nL ret w0) (Y : Wd Γ w0 s ws H locs) {v : Value} (q0 : Nat) {fs : List Value} (he : ws[q0]? = some (a, .inr (1, fs))) (hv : fs[2]? = some v) (hdg : decode cc pc = .ok (.getfield 75, 3)) (kk : W p l e R s m args below meth c H locs cells slots Q (F0 m (pc + 3) ls (v :: rest))) : W p l e R s m args below meth c H locs cells slots Q (F0 m pc ls (.ref a :: rest)) := x_getN X Y iX1 rfl 2 (by decide) rfl kw487 q0 he hv hdg kk
theorem gfX11_125 (X : Cx Γ p s m args meth c RX11 cc nL ret w0) (Y : Wd Γ w0 s ws H locs) {v : Value} (q0 : Nat) {fs : List Value} (he : ws[q0]? = some (a, .inr (1, fs))) (hv : fs[3]? = some v) (hdg : decode cc pc = .ok (.getfield 125, 3)) (kk : W p l e R s m args below meth c H locs cells slots Q (F0 m (pc + 3) ls (v :: rest))) : W p l e R s m args below meth c H locs cells slots Q (F0 m pc ls (.ref a :: rest)) := x_getN X Y iX1 rfl 3 (by decide) rfl kw488 q0 he hv hdg kk
theorem dmJ6_bitCount_0f7a4S : yJ6_bitCount_0f7a4.cls ≠ "java/lang/invoke/MethodHandle" ∧ yJ6_bitCount_0f7a4.cls ≠ "java/lang/invoke/VarHandle" ∧ (parseMethodDescriptor yJ6_bitCount_0f7a4.desc).map (fun d => d.parameters.length) = some 1 := by decide +kernel
theorem cwX11_144 (X : Cx Γ p s m args meth c RX11 cc nL ret w0) (hR : rmJ_bitCount.frames + 1 ≤ R.frames ∧ 8 + (1 + 11) + rmJ_bitCount.locals ≤ R.locals) : CallB R s args RX11 144 yJ6_bitCount_0f7a4 cJ6_bitCount_0f7a4 1 (some .int) (Cond.code yJ6_bitCount_0f7a4 cJ6_bitCount_0f7a4 1 (some .int) :: GW) rmJ_bitCount 0 0 1 ∧ (Cond.static yJ6_bitCount_0f7a4).before args s = true := cw_S X kw489 kw490 kw491 kw492 dmJ6_bitCount_0f7a4S rfl rfl hR
theorem gfX11_275 (X : Cx Γ p s m args meth c RX11 cc nL ret w0) (Y : Wd Γ w0 s ws H locs) {v : Value} (q0 : Nat) {fs : List Value} (he : ws[q0]? = some (a, .inr (1, fs))) (hv : fs[0]? = some v) (hdg : decode cc pc = .ok (.getfield 275, 3)) (kk : W p l e R s m args below meth c H locs cells slots Q (F0 m (pc + 3) ls (v :: rest))) : W p l e R s m args below meth c H locs cells slots Q (F0 m pc ls (.ref a :: rest)) := x_getN X Y iX1 rfl 0 (by decide) rfl kw493 q0 he hv hdg kk
theorem gfX11_230 (X : Cx Γ p s m args meth c RX11 cc nL ret w0) (Y : Wd Γ w0 s ws H locs) {v : Value} (q0 : Nat) {fs : List Value} (he : ws[q0]? = some (a, .inr (1, fs))) (hv : fs[1]? = some v) (hdg : decode cc pc = .ok (.getfield 230, 3)) (kk : W p l e R s m args below meth c H locs cells slots Q (F0 m (pc + 3) ls (v :: rest))) : W p l e R s m args below meth c H locs cells slots Q (F0 m pc ls (.ref a :: rest)) := x_getN X Y iX1 rfl 1 (by decide) rfl kw494 q0 he hv hdg kk
theorem gfX11_213 (X : Cx Γ p s m args meth c RX11 cc nL ret w0) (Y : Wd Γ w0 s ws H locs) {v : Value} (q0 : Nat) {fs : List Value} (he : ws[q0]? = some (a, .inr (1, fs))) (hv : fs[5]? = some v) (hdg : decode cc pc = .ok (.getfield 213, 3)) (kk : W p l e R s m args below meth c H locs cells slots Q (F0 m (pc + 3) ls (v :: rest))) : W p l e R s m args below meth c H locs cells slots Q (F0 m pc ls (.ref a :: rest)) := x_getN X Y iX1 rfl 5 (by decide) rfl kw495 q0 he hv hdg kk
theorem gfX11_118 (X : Cx Γ p s m args meth c RX11 cc nL ret w0) (Y : Wd Γ w0 s ws H locs) {v : Value} (q0 : Nat) {fs : List Value} (he : ws[q0]? = some (a, .inr (1, fs))) (hv : fs[4]? = some v) (hdg : decode cc pc = .ok (.getfield 118, 3)) (kk : W p l e R s m args below meth c H locs cells slots Q (F0 m (pc + 3) ls (v :: rest))) : W p l e R s m args below meth c H locs cells slots Q (F0 m pc ls (.ref a :: rest)) := x_getN X Y iX1 rfl 4 (by decide) rfl kw496 q0 he hv hdg kk
theorem gfX11_26 (X : Cx Γ p s m args meth c RX11 cc nL ret w0) (Y : Wd Γ w0 s ws H locs) {v : Value} (q0 : Nat) {fs : List Value} (he : ws[q0]? = some (a, .inr (11, fs))) (hv : fs[4]? = some v) (hdg : decode cc pc = .ok (.getfield 26, 3)) (kk : W p l e R s m args below meth c H locs cells slots Q (F0 m (pc + 3) ls (v :: rest))) : W p l e R s m args below meth c H locs cells slots Q (F0 m pc ls (.ref a :: rest)) := x_get X Y iX11 rfl 4 (by decide) rfl kw497 q0 he hv hdg kk
theorem gfX11_111 (X : Cx Γ p s m args meth c RX11 cc nL ret w0) (Y : Wd Γ w0 s ws H locs) {v : Value} (q0 : Nat) {fs : List Value} (he : ws[q0]? = some (a, .inr (10, fs))) (hv : fs[2]? = some v) (hdg : decode cc pc = .ok (.getfield 111, 3)) (kk : W p l e R s m args below meth c H locs cells slots Q (F0 m (pc + 3) ls (v :: rest))) : W p l e R s m args below meth c H locs cells slots Q (F0 m pc ls (.ref a :: rest)) := x_getN X Y iX10 rfl 2 (by decide) rfl kw498 q0 he hv hdg kk
def rmX_howMany : Room := { frames := 1, cells := 0, slots := 0, locals := 20 }
def X_howMany (x1 : Int32) (csw : Int32) (cca : Int32) (csi : Int32) (cab : Int32) (cun : Int32) (csg : Int32) (tln : Int32) : Option (Int32) := if x1 = (0 : Int32) then (some csi) else (if x1 = (1 : Int32) then (bd1 (J_bitCount cab) (fun (r_3 : Int32) => some r_3)) else (if x1 = (2 : Int32) then (some csw) else (if x1 = (3 : Int32) then (some cca) else (if x1 = (4 : Int32) then (some csg) else (if x1 = (5 : Int32) then (some cun) else (some tln))))))
set_option maxHeartbeats 4000000 in
set_option maxRecDepth 100000 in
theorem bX_howMany_e {Ax : Nat → Nat} {Ac : Nat → Nat} {Ad : Nat → Nat} {Ai : Nat → Nat} {Aj : Nat → Nat} {At : Nat → Nat} {Ab : Nat → Nat} {Aq : Nat → Nat} {Af : Nat → Nat} {xik : Int32} {xns : Nat → Int32} {xng : Nat → Int32} {xnn : Nat → Int32} {xbc : Int32} {xnc : Int32} {xfc : Int32} {csw : Int32} {cca : Int32} {csi : Int32} {cab : Int32} {cun : Int32} {csg : Int32} {cfa : Nat → Int32} {che : Nat → Int32} {cst : Nat → Int32} {dsw : Int32} {dca : Int32} {dsi : Int32} {dab : Int32} {dun : Int32} {dsg : Int32} {dfa : Nat → Int32} {dhe : Nat → Int32} {dst : Nat → Int32} {isw : Int32} {ica : Int32} {isi : Int32} {iab : Int32} {iun : Int32} {isg : Int32} {ifa : Nat → Int32} {ihe : Nat → Int32} {ist : Nat → Int32} {jsw : Int32} {jca : Int32} {jsi : Int32} {jab : Int32} {jun : Int32} {jsg : Int32} {jfa : Nat → Int32} {jhe : Nat → Int32} {jst : Nat → Int32} {tby : Nat → Int32} {tnu : Nat → Int32} {tln : Int32} {tat : Int32} {tsr : Int32} {ttk : Int32} {tnm : Int32} {tit : Int32} {tft : Int32} {blo : Int32} {bwh : Int32} {bow : Int32} {bom : Int32} {qhe : Nat → Int32} {qbi : Nat → Int32} {qhv : Nat → Int32} {qwo : Nat → Int32} {qts : Int32} {qbb : Int32} {qbc : Int32} {qbw : Int32} {fab : Int64} {fbe : Int64} {r0 : Int32} {x1 : Int32} (X : Cx Γ p s m args meth c RX11 cX11_howMany 2 (some .int) w0) (hf : X_howMany x1 csw cca csi cab cun csg tln = some r0) (Y : Wd Γ w0 s ((WX Γ Ax Ac Ad Ai Aj At Ab Aq Af xik xns xng xnn xbc xnc xfc) ++ ((WC Γ Ac csw cca csi cab cun csg cfa che cst) ++ ((WC Γ Ad dsw dca dsi dab dun dsg dfa dhe dst) ++ ((WC Γ Ai isw ica isi iab iun isg ifa ihe ist) ++ ((WC Γ Aj jsw jca jsi jab jun jsg jfa jhe jst) ++ ((WT Γ At tby tnu tln tat tsr ttk tnm tit tft) ++ ((WB Γ Ab blo bwh bow bom) ++ ((WQ Γ Aq qhe qbi qhv qwo qts qbb qbc qbw) ++ (WF Γ Af fab fbe))))))))) H locs) (hl : lv_has ls 2 [(0, .ref (Ax 0)), (1, .int x1)]) : W p l e rmX_howMany s m args below meth c H locs 0 0 (EI Γ below args s w0 ((WX Γ Ax Ac Ad Ai Aj At Ab Aq Af xik xns xng xnn xbc xnc xfc) ++ ((WC Γ Ac csw cca csi cab cun csg cfa che cst) ++ ((WC Γ Ad dsw dca dsi dab dun dsg dfa dhe dst) ++ ((WC Γ Ai isw ica isi iab iun isg ifa ihe ist) ++ ((WC Γ Aj jsw jca jsi jab jun jsg jfa jhe jst) ++ ((WT Γ At tby tnu tln tat tsr ttk tnm tit tft) ++ ((WB Γ Ab blo bwh bow bom) ++ ((WQ Γ Aq qhe qbi qhv qwo qts qbb qbc qbw) ++ (WF Γ Af fab fbe))))))))) r0) (F0 m 0 ls []) := by
  have hx := X.1
  have hb := X.2.1
  refine lv_iload_n hx hb dX11_howMany_0 rfl (lv_at hl 1 rfl) ?_
  by_cases c_1 : x1 = (0 : Int32)
  · have hf := ite_t hf c_1
    have et : (x1).toInt = 0 := by rw [c_1]; rfl
    refine lv_tableIn (tgt := 40) (off := 39) hx hb dX11_howMany_1 (by rw [et]; decide) (by rw [et]; decide) (by rw [et]; rfl) (by decide) ?_
    refine lv_aload_n hx hb dX11_howMany_40 rfl (lv_at hl 0 rfl) ?_
    refine gfX11_10 X Y (v := .ref (Ac 0)) 0 rfl rfl dX11_howMany_41 ?_
    refine gfX11_75 X Y (v := .int csi) 5 rfl rfl dX11_howMany_44 ?_
    have e90 := Option.some.inj hf
    subst e90
    exact x_iret X Y dX11_howMany_47
  have hf := ite_f hf c_1
  by_cases c_2 : x1 = (1 : Int32)
  · have hf := ite_t hf c_2
    have et : (x1).toInt = 1 := by rw [c_2]; rfl
    refine lv_tableIn (tgt := 48) (off := 47) hx hb dX11_howMany_1 (by rw [et]; decide) (by rw [et]; decide) (by rw [et]; rfl) (by decide) ?_
    refine lv_aload_n hx hb dX11_howMany_48 rfl (lv_at hl 0 rfl) ?_
    refine gfX11_10 X Y (v := .ref (Ac 0)) 0 rfl rfl dX11_howMany_49 ?_
    refine gfX11_125 X Y (v := .int cab) 5 rfl rfl dX11_howMany_52 ?_
    obtain ⟨r_3, ho_4, hf⟩ := bd1_some hf
    refine t_i Y (bk0 Y) (r_S (As := [.int cab]) (rest := []) X (c_pre0 X Y) (cJ_bitCount ho_4) (cwX11_144 X (by decide)) rfl hl.1 (Nat.le_of_ble_eq_true rfl) rfl dX11_howMany_55 ⟨Nat.zero_le _, Nat.zero_le _⟩) (fun H locs Y => ?_)
    have e90 := Option.some.inj hf
    subst e90
    exact x_iret X Y dX11_howMany_58
  have hf := ite_f hf c_2
  by_cases c_5 : x1 = (2 : Int32)
  · have hf := ite_t hf c_5
    have et : (x1).toInt = 2 := by rw [c_5]; rfl
    refine lv_tableIn (tgt := 59) (off := 58) hx hb dX11_howMany_1 (by rw [et]; decide) (by rw [et]; decide) (by rw [et]; rfl) (by decide) ?_
    refine lv_aload_n hx hb dX11_howMany_59 rfl (lv_at hl 0 rfl) ?_
    refine gfX11_10 X Y (v := .ref (Ac 0)) 0 rfl rfl dX11_howMany_60 ?_
    refine gfX11_275 X Y (v := .int csw) 5 rfl rfl dX11_howMany_63 ?_
    have e90 := Option.some.inj hf
    subst e90
    exact x_iret X Y dX11_howMany_66
  have hf := ite_f hf c_5
  by_cases c_6 : x1 = (3 : Int32)
  · have hf := ite_t hf c_6
    have et : (x1).toInt = 3 := by rw [c_6]; rfl
    refine lv_tableIn (tgt := 67) (off := 66) hx hb dX11_howMany_1 (by rw [et]; decide) (by rw [et]; decide) (by rw [et]; rfl) (by decide) ?_
    refine lv_aload_n hx hb dX11_howMany_67 rfl (lv_at hl 0 rfl) ?_
    refine gfX11_10 X Y (v := .ref (Ac 0)) 0 rfl rfl dX11_howMany_68 ?_
    refine gfX11_230 X Y (v := .int cca) 5 rfl rfl dX11_howMany_71 ?_
    have e90 := Option.some.inj hf
    subst e90
    exact x_iret X Y dX11_howMany_74
  have hf := ite_f hf c_6
  by_cases c_7 : x1 = (4 : Int32)
  · have hf := ite_t hf c_7
    have et : (x1).toInt = 4 := by rw [c_7]; rfl
    refine lv_tableIn (tgt := 75) (off := 74) hx hb dX11_howMany_1 (by rw [et]; decide) (by rw [et]; decide) (by rw [et]; rfl) (by decide) ?_
    refine lv_aload_n hx hb dX11_howMany_75 rfl (lv_at hl 0 rfl) ?_
    refine gfX11_10 X Y (v := .ref (Ac 0)) 0 rfl rfl dX11_howMany_76 ?_
    refine gfX11_213 X Y (v := .int csg) 5 rfl rfl dX11_howMany_79 ?_
    have e90 := Option.some.inj hf
    subst e90
    exact x_iret X Y dX11_howMany_82
  have hf := ite_f hf c_7
  by_cases c_8 : x1 = (5 : Int32)
  · have hf := ite_t hf c_8
    have et : (x1).toInt = 5 := by rw [c_8]; rfl
    refine lv_tableIn (tgt := 83) (off := 82) hx hb dX11_howMany_1 (by rw [et]; decide) (by rw [et]; decide) (by rw [et]; rfl) (by decide) ?_
    refine lv_aload_n hx hb dX11_howMany_83 rfl (lv_at hl 0 rfl) ?_
    refine gfX11_10 X Y (v := .ref (Ac 0)) 0 rfl rfl dX11_howMany_84 ?_
    refine gfX11_118 X Y (v := .int cun) 5 rfl rfl dX11_howMany_87 ?_
    have e90 := Option.some.inj hf
    subst e90
    exact x_iret X Y dX11_howMany_90
  have hf := ite_f hf c_8
  have hout : (x1).toInt < 0 ∨ 5 < (x1).toInt := by
    have qc_1 := lv_neT c_1 (show ((0 : Int32)).toInt = 0 by rfl)
    have qc_2 := lv_neT c_2 (show ((1 : Int32)).toInt = 1 by rfl)
    have qc_5 := lv_neT c_5 (show ((2 : Int32)).toInt = 2 by rfl)
    have qc_6 := lv_neT c_6 (show ((3 : Int32)).toInt = 3 by rfl)
    have qc_7 := lv_neT c_7 (show ((4 : Int32)).toInt = 4 by rfl)
    have qc_8 := lv_neT c_8 (show ((5 : Int32)).toInt = 5 by rfl)
    omega
  refine lv_tableOut (tgt := 91) hx hb dX11_howMany_1 hout (by decide) ?_
  refine lv_aload_n hx hb dX11_howMany_91 rfl (lv_at hl 0 rfl) ?_
  refine gfX11_26 X Y (v := .ref (At 0)) 0 rfl rfl dX11_howMany_92 ?_
  refine gfX11_111 X Y (v := .int tln) 21 rfl rfl dX11_howMany_95 ?_
  have e90 := Option.some.inj hf
  subst e90
  exact x_iret X Y dX11_howMany_98
theorem cX_howMany {l : Launch} {Γ : Gm} {Ax : Nat → Nat} {Ac : Nat → Nat} {Ad : Nat → Nat} {Ai : Nat → Nat} {Aj : Nat → Nat} {At : Nat → Nat} {Ab : Nat → Nat} {Aq : Nat → Nat} {Af : Nat → Nat} {xik : Int32} {xns : Nat → Int32} {xng : Nat → Int32} {xnn : Nat → Int32} {xbc : Int32} {xnc : Int32} {xfc : Int32} {csw : Int32} {cca : Int32} {csi : Int32} {cab : Int32} {cun : Int32} {csg : Int32} {cfa : Nat → Int32} {che : Nat → Int32} {cst : Nat → Int32} {dsw : Int32} {dca : Int32} {dsi : Int32} {dab : Int32} {dun : Int32} {dsg : Int32} {dfa : Nat → Int32} {dhe : Nat → Int32} {dst : Nat → Int32} {isw : Int32} {ica : Int32} {isi : Int32} {iab : Int32} {iun : Int32} {isg : Int32} {ifa : Nat → Int32} {ihe : Nat → Int32} {ist : Nat → Int32} {jsw : Int32} {jca : Int32} {jsi : Int32} {jab : Int32} {jun : Int32} {jsg : Int32} {jfa : Nat → Int32} {jhe : Nat → Int32} {jst : Nat → Int32} {tby : Nat → Int32} {tnu : Nat → Int32} {tln : Int32} {tat : Int32} {tsr : Int32} {ttk : Int32} {tnm : Int32} {tit : Int32} {tft : Int32} {blo : Int32} {bwh : Int32} {bow : Int32} {bom : Int32} {qhe : Nat → Int32} {qbi : Nat → Int32} {qhv : Nat → Int32} {qwo : Nat → Int32} {qts : Int32} {qbb : Int32} {qbc : Int32} {qbw : Int32} {fab : Int64} {fbe : Int64} {r0 : Int32} {x1 : Int32} (h : X_howMany x1 csw cca csi cab cun csg tln = some r0) : CI l Γ yX11_howMany (Cond.code yX11_howMany cX11_howMany 2 (some .int) :: GW) rmX_howMany [.ref (Ax 0), .int x1] ((WX Γ Ax Ac Ad Ai Aj At Ab Aq Af xik xns xng xnn xbc xnc xfc) ++ ((WC Γ Ac csw cca csi cab cun csg cfa che cst) ++ ((WC Γ Ad dsw dca dsi dab dun dsg dfa dhe dst) ++ ((WC Γ Ai isw ica isi iab iun isg ifa ihe ist) ++ ((WC Γ Aj jsw jca jsi jab jun jsg jfa jhe jst) ++ ((WT Γ At tby tnu tln tat tsr ttk tnm tit tft) ++ ((WB Γ Ab blo bwh bow bom) ++ ((WQ Γ Aq qhe qbi qhv qwo qts qbb qbc qbw) ++ (WF Γ Af fab fbe))))))))) ((WX Γ Ax Ac Ad Ai Aj At Ab Aq Af xik xns xng xnn xbc xnc xfc) ++ ((WC Γ Ac csw cca csi cab cun csg cfa che cst) ++ ((WC Γ Ad dsw dca dsi dab dun dsg dfa dhe dst) ++ ((WC Γ Ai isw ica isi iab iun isg ifa ihe ist) ++ ((WC Γ Aj jsw jca jsi jab jun jsg jfa jhe jst) ++ ((WT Γ At tby tnu tln tat tsr ttk tnm tit tft) ++ ((WB Γ Ab blo bwh bow bom) ++ ((WQ Γ Aq qhe qbi qhv qwo qts qbb qbc qbw) ++ (WF Γ Af fab fbe))))))))) r0 := ofBody (Qc := QcI Γ _ _ r0) (by decide) (Nat.le_of_ble_eq_true rfl) (fun p e s m below meth c ls _ X Y hl => bX_howMany_e X h Y hl)
theorem dmX1_firstTopV : yX1_firstTop.cls = RX1 ∧ yX1_firstTop.cls ≠ "java/lang/invoke/MethodHandle" ∧ yX1_firstTop.cls ≠ "java/lang/invoke/VarHandle" ∧ (parseMethodDescriptor yX1_firstTop.desc).map (fun d => d.parameters.length) = some 2 := by decide +kernel
theorem cwX11_278 (X : Cx Γ p s m args meth c RX11 cc nL ret w0) (hR : rmC_firstTop.frames + 1 ≤ R.frames ∧ 8 + (4 + 11) + rmC_firstTop.locals ≤ R.locals) : CallW R s args RX11 RX1 278 yX1_firstTop cX1_firstTop 4 (some .int) (Cond.code yX1_firstTop cX1_firstTop 4 (some .int) :: GW) rmC_firstTop 0 0 2 := cw_V X kw499 kw500 kw501 kw228 kw502 dmX1_firstTopV rfl rfl hR
def rmX_inOrder : Room := { frames := 4, cells := 0, slots := 0, locals := 90 }
def X_inOrder_33 (rc33 : Int32 → Int32 → Int32 → Int32 → Int32 → Int32 → Int32 → (Nat → Int32) → Option (Int32)) (x1 : Int32) (x2 : Int32) (x3 : Int32) (x4 : Int32) (x5 : Int32) (csi : Int32) (cab : Int32) (cfa : Nat → Int32) : Option (Int32) := if x2 ≤ x5 then (some x4) else (if x4 = (-1 : Int32) then (some x4) else (bnd (x3 &&& (((1 : Int32) <<< (x4 &&& 31)) ^^^ (-1 : Int32))) (fun (x3_3 : Int32) => bd1 (C_firstTop x1 x3_3 csi cfa) (fun (r_4 : Int32) => bnd (x5 + (1 : Int32)) (fun (x5_5 : Int32) => rc33 x1 x2 x3_3 r_4 x5_5 csi cab cfa)))))
set_option maxHeartbeats 4000000 in
set_option maxRecDepth 100000 in
theorem bX_inOrder_33 {Ax : Nat → Nat} {Ac : Nat → Nat} {Ad : Nat → Nat} {Ai : Nat → Nat} {Aj : Nat → Nat} {At : Nat → Nat} {Ab : Nat → Nat} {Aq : Nat → Nat} {Af : Nat → Nat} {xik : Int32} {xns : Nat → Int32} {xng : Nat → Int32} {xnn : Nat → Int32} {xbc : Int32} {xnc : Int32} {xfc : Int32} {csw : Int32} {cca : Int32} {csi : Int32} {cab : Int32} {cun : Int32} {csg : Int32} {cfa : Nat → Int32} {che : Nat → Int32} {cst : Nat → Int32} {dsw : Int32} {dca : Int32} {dsi : Int32} {dab : Int32} {dun : Int32} {dsg : Int32} {dfa : Nat → Int32} {dhe : Nat → Int32} {dst : Nat → Int32} {isw : Int32} {ica : Int32} {isi : Int32} {iab : Int32} {iun : Int32} {isg : Int32} {ifa : Nat → Int32} {ihe : Nat → Int32} {ist : Nat → Int32} {jsw : Int32} {jca : Int32} {jsi : Int32} {jab : Int32} {jun : Int32} {jsg : Int32} {jfa : Nat → Int32} {jhe : Nat → Int32} {jst : Nat → Int32} {tby : Nat → Int32} {tnu : Nat → Int32} {tln : Int32} {tat : Int32} {tsr : Int32} {ttk : Int32} {tnm : Int32} {tit : Int32} {tft : Int32} {blo : Int32} {bwh : Int32} {bow : Int32} {bom : Int32} {qhe : Nat → Int32} {qbi : Nat → Int32} {qhv : Nat → Int32} {qwo : Nat → Int32} {qts : Int32} {qbb : Int32} {qbc : Int32} {qbw : Int32} {fab : Int64} {fbe : Int64} {r0 : Int32} {x1 : Int32} {x2 : Int32} {x3 : Int32} {x4 : Int32} {x5 : Int32} {rc33 : Int32 → Int32 → Int32 → Int32 → Int32 → Int32 → Int32 → (Nat → Int32) → Option (Int32)} (X : Cx Γ p s m args meth c RX11 cX11_inOrder 6 (some .int) w0) (h33 : ∀ (x1 : Int32) (x2 : Int32) (x3 : Int32) (x4 : Int32) (x5 : Int32) (csi : Int32) (cab : Int32) (cfa : Nat → Int32), rc33 x1 x2 x3 x4 x5 csi cab cfa = some r0 → ∀ (H : Heap) (locs : List Loc) (ls : Array Slot), Wd Γ w0 s ((WX Γ Ax Ac Ad Ai Aj At Ab Aq Af xik xns xng xnn xbc xnc xfc) ++ ((WC Γ Ac csw cca csi cab cun csg cfa che cst) ++ ((WC Γ Ad dsw dca dsi dab dun dsg dfa dhe dst) ++ ((WC Γ Ai isw ica isi iab iun isg ifa ihe ist) ++ ((WC Γ Aj jsw jca jsi jab jun jsg jfa jhe jst) ++ ((WT Γ At tby tnu tln tat tsr ttk tnm tit tft) ++ ((WB Γ Ab blo bwh bow bom) ++ ((WQ Γ Aq qhe qbi qhv qwo qts qbb qbc qbw) ++ (WF Γ Af fab fbe))))))))) H locs → lv_has ls 6 [(0, .ref (Ax 0)), (1, .int x1), (2, .int x2), (3, .int x3), (4, .int x4), (5, .int x5)] → W p l e rmX_inOrder s m args below meth c H locs 0 0 (EI Γ below args s w0 ((WX Γ Ax Ac Ad Ai Aj At Ab Aq Af xik xns xng xnn xbc xnc xfc) ++ ((WC Γ Ac csw cca csi cab cun csg cfa che cst) ++ ((WC Γ Ad dsw dca dsi dab dun dsg dfa dhe dst) ++ ((WC Γ Ai isw ica isi iab iun isg ifa ihe ist) ++ ((WC Γ Aj jsw jca jsi jab jun jsg jfa jhe jst) ++ ((WT Γ At tby tnu tln tat tsr ttk tnm tit tft) ++ ((WB Γ Ab blo bwh bow bom) ++ ((WQ Γ Aq qhe qbi qhv qwo qts qbb qbc qbw) ++ (WF Γ Af fab fbe))))))))) r0) (F0 m 33 ls [])) (hf : X_inOrder_33 rc33 x1 x2 x3 x4 x5 csi cab cfa = some r0) (Y : Wd Γ w0 s ((WX Γ Ax Ac Ad Ai Aj At Ab Aq Af xik xns xng xnn xbc xnc xfc) ++ ((WC Γ Ac csw cca csi cab cun csg cfa che cst) ++ ((WC Γ Ad dsw dca dsi dab dun dsg dfa dhe dst) ++ ((WC Γ Ai isw ica isi iab iun isg ifa ihe ist) ++ ((WC Γ Aj jsw jca jsi jab jun jsg jfa jhe jst) ++ ((WT Γ At tby tnu tln tat tsr ttk tnm tit tft) ++ ((WB Γ Ab blo bwh bow bom) ++ ((WQ Γ Aq qhe qbi qhv qwo qts qbb qbc qbw) ++ (WF Γ Af fab fbe))))))))) H locs) (hl : lv_has ls 6 [(0, .ref (Ax 0)), (1, .int x1), (2, .int x2), (3, .int x3), (4, .int x4), (5, .int x5)]) : W p l e rmX_inOrder s m args below meth c H locs 0 0 (EI Γ below args s w0 ((WX Γ Ax Ac Ad Ai Aj At Ab Aq Af xik xns xng xnn xbc xnc xfc) ++ ((WC Γ Ac csw cca csi cab cun csg cfa che cst) ++ ((WC Γ Ad dsw dca dsi dab dun dsg dfa dhe dst) ++ ((WC Γ Ai isw ica isi iab iun isg ifa ihe ist) ++ ((WC Γ Aj jsw jca jsi jab jun jsg jfa jhe jst) ++ ((WT Γ At tby tnu tln tat tsr ttk tnm tit tft) ++ ((WB Γ Ab blo bwh bow bom) ++ ((WQ Γ Aq qhe qbi qhv qwo qts qbb qbc qbw) ++ (WF Γ Af fab fbe))))))))) r0) (F0 m 33 ls []) := by
  have hx := X.1
  have hb := X.2.1
  refine lv_iload hx hb dX11_inOrder_33 (lv_at hl 5 rfl) ?_
  refine lv_iload_n hx hb dX11_inOrder_35 rfl (lv_at hl 2 rfl) ?_
  refine lv_icmp_ge (tgt := 71) hx hb dX11_inOrder_36 (by decide) (fun c_1 => ?_) (fun c_1 => ?_)
  · have hf := ite_t hf c_1
    refine lv_iload hx hb dX11_inOrder_71 (lv_at hl 4 rfl) ?_
    have e90 := Option.some.inj hf
    subst e90
    exact x_iret X Y dX11_inOrder_73
  · have hf := ite_f hf c_1
    refine lv_iload hx hb dX11_inOrder_39 (lv_at hl 4 rfl) ?_
    refine lv_iconst (v := (-1 : Int32)) hx hb dX11_inOrder_41 (by decide) ?_
    refine lv_icmp_eq (tgt := 71) hx hb dX11_inOrder_42 (by decide) (fun c_2 => ?_) (fun c_2 => ?_)
    · have hf := ite_t hf c_2
      refine lv_iload hx hb dX11_inOrder_71 (lv_at hl 4 rfl) ?_
      have e90 := Option.some.inj hf
      subst e90
      exact x_iret X Y dX11_inOrder_73
    · have hf := ite_f hf c_2
      refine lv_iload_n hx hb dX11_inOrder_45 rfl (lv_at hl 3 rfl) ?_
      refine lv_iconst (v := (1 : Int32)) hx hb dX11_inOrder_46 (by decide) ?_
      refine lv_iload hx hb dX11_inOrder_47 (lv_at hl 4 rfl) ?_
      refine lv_ishl hx hb dX11_inOrder_49 ?_
      refine lv_iconst (v := (-1 : Int32)) hx hb dX11_inOrder_50 (by decide) ?_
      refine lv_ixor hx hb dX11_inOrder_51 ?_
      refine lv_iand hx hb dX11_inOrder_52 ?_
      refine lv_topi (fun x3_3 e_x3_3 => ?_)
      have hf := bnd_eq hf e_x3_3
      refine lv_istore_n (lv' := [(3, .int x3_3), (0, .ref (Ax 0)), (1, .int x1), (2, .int x2), (4, .int x4), (5, .int x5)]) hx hb dX11_inOrder_53 rfl hl (by decide) rfl (fun ls hl => ?_)
      refine lv_aload_n hx hb dX11_inOrder_54 rfl (lv_at hl 1 rfl) ?_
      refine gfX11_10 X Y (v := .ref (Ac 0)) 0 rfl rfl dX11_inOrder_55 ?_
      refine lv_iload_n hx hb dX11_inOrder_58 rfl (lv_at hl 2 rfl) ?_
      refine lv_iload_n hx hb dX11_inOrder_59 rfl (lv_at hl 0 rfl) ?_
      obtain ⟨r_4, ho_6, hf⟩ := bd1_some hf
      refine t_i Y (bkE Y [5, 6, 7, 8] rfl) (r_V (As := [.int x1, .int x3_3]) (rest := []) X (c_pre X Y [5, 6, 7, 8] rfl rfl) (cC_firstTop ho_6) (cwX11_278 X (by decide)) (va_recv X.K Y.1 (q := (RX1, TX1, 9)) (q0 := 5) (ci := 1) rfl rfl) rfl hl.1 (Nat.le_of_ble_eq_true rfl) rfl dX11_inOrder_60 ⟨Nat.zero_le _, Nat.zero_le _⟩) (fun H locs Y => ?_)
      refine lv_istore (lv' := [(4, .int r_4), (3, .int x3_3), (0, .ref (Ax 0)), (1, .int x1), (2, .int x2), (5, .int x5)]) hx hb dX11_inOrder_63 hl (by decide) rfl (fun ls hl => ?_)
      obtain ⟨x5_5, e_x5_5⟩ : ∃ z : Int32, z = (x5 + (1 : Int32)) := ⟨_, rfl⟩
      have hf := bnd_eq hf e_x5_5
      refine lv_iinc (v := x5_5) (lv' := [(5, .int x5_5), (4, .int r_4), (3, .int x3_3), (0, .ref (Ax 0)), (1, .int x1), (2, .int x2)]) hx hb dX11_inOrder_65 hl (k := 5) rfl (by rw [e_x5_5]; rfl) (by decide) rfl (fun ls hl => ?_)
      refine lv_goto (tgt := 33) hx hb dX11_inOrder_68 (by decide) ?_
      exact h33 _ _ _ _ _ _ _ _ hf _ _ _ Y (lv_sub hl [3, 4, 5, 2, 1, 0] rfl)
def X_inOrder_L33 : Nat → Int32 → Int32 → Int32 → Int32 → Int32 → Int32 → Int32 → (Nat → Int32) → Option (Int32)
  | 0, _, _, _, _, _, _, _, _ => none
  | n + 1, x1, x2, x3, x4, x5, csi, cab, cfa => X_inOrder_33 (X_inOrder_L33 n) x1 x2 x3 x4 x5 csi cab cfa
theorem lX_inOrder_33 {Ax : Nat → Nat} {Ac : Nat → Nat} {Ad : Nat → Nat} {Ai : Nat → Nat} {Aj : Nat → Nat} {At : Nat → Nat} {Ab : Nat → Nat} {Aq : Nat → Nat} {Af : Nat → Nat} {xik : Int32} {xns : Nat → Int32} {xng : Nat → Int32} {xnn : Nat → Int32} {xbc : Int32} {xnc : Int32} {xfc : Int32} {csw : Int32} {cca : Int32} {cun : Int32} {csg : Int32} {che : Nat → Int32} {cst : Nat → Int32} {dsw : Int32} {dca : Int32} {dsi : Int32} {dab : Int32} {dun : Int32} {dsg : Int32} {dfa : Nat → Int32} {dhe : Nat → Int32} {dst : Nat → Int32} {isw : Int32} {ica : Int32} {isi : Int32} {iab : Int32} {iun : Int32} {isg : Int32} {ifa : Nat → Int32} {ihe : Nat → Int32} {ist : Nat → Int32} {jsw : Int32} {jca : Int32} {jsi : Int32} {jab : Int32} {jun : Int32} {jsg : Int32} {jfa : Nat → Int32} {jhe : Nat → Int32} {jst : Nat → Int32} {tby : Nat → Int32} {tnu : Nat → Int32} {tln : Int32} {tat : Int32} {tsr : Int32} {ttk : Int32} {tnm : Int32} {tit : Int32} {tft : Int32} {blo : Int32} {bwh : Int32} {bow : Int32} {bom : Int32} {qhe : Nat → Int32} {qbi : Nat → Int32} {qhv : Nat → Int32} {qwo : Nat → Int32} {qts : Int32} {qbb : Int32} {qbc : Int32} {qbw : Int32} {fab : Int64} {fbe : Int64} {r0 : Int32} (X : Cx Γ p s m args meth c RX11 cX11_inOrder 6 (some .int) w0) : ∀ (n : Nat) (x1 : Int32) (x2 : Int32) (x3 : Int32) (x4 : Int32) (x5 : Int32) (csi : Int32) (cab : Int32) (cfa : Nat → Int32), X_inOrder_L33 n x1 x2 x3 x4 x5 csi cab cfa = some r0 → ∀ (H : Heap) (locs : List Loc) (ls : Array Slot), Wd Γ w0 s ((WX Γ Ax Ac Ad Ai Aj At Ab Aq Af xik xns xng xnn xbc xnc xfc) ++ ((WC Γ Ac csw cca csi cab cun csg cfa che cst) ++ ((WC Γ Ad dsw dca dsi dab dun dsg dfa dhe dst) ++ ((WC Γ Ai isw ica isi iab iun isg ifa ihe ist) ++ ((WC Γ Aj jsw jca jsi jab jun jsg jfa jhe jst) ++ ((WT Γ At tby tnu tln tat tsr ttk tnm tit tft) ++ ((WB Γ Ab blo bwh bow bom) ++ ((WQ Γ Aq qhe qbi qhv qwo qts qbb qbc qbw) ++ (WF Γ Af fab fbe))))))))) H locs → lv_has ls 6 [(0, .ref (Ax 0)), (1, .int x1), (2, .int x2), (3, .int x3), (4, .int x4), (5, .int x5)] → W p l e rmX_inOrder s m args below meth c H locs 0 0 (EI Γ below args s w0 ((WX Γ Ax Ac Ad Ai Aj At Ab Aq Af xik xns xng xnn xbc xnc xfc) ++ ((WC Γ Ac csw cca csi cab cun csg cfa che cst) ++ ((WC Γ Ad dsw dca dsi dab dun dsg dfa dhe dst) ++ ((WC Γ Ai isw ica isi iab iun isg ifa ihe ist) ++ ((WC Γ Aj jsw jca jsi jab jun jsg jfa jhe jst) ++ ((WT Γ At tby tnu tln tat tsr ttk tnm tit tft) ++ ((WB Γ Ab blo bwh bow bom) ++ ((WQ Γ Aq qhe qbi qhv qwo qts qbb qbc qbw) ++ (WF Γ Af fab fbe))))))))) r0) (F0 m 33 ls []) := by
  intro n
  induction n with
  | zero => intro x1 x2 x3 x4 x5 csi cab cfa hf; cases hf
  | succ n ih => intro x1 x2 x3 x4 x5 csi cab cfa hf H locs ls Y hl; exact bX_inOrder_33 X ih hf Y hl
def X_inOrder (x1 : Int32) (x2 : Int32) (csi : Int32) (cab : Int32) (cfa : Nat → Int32) : Option (Int32) := bd1 (J_bitCount x1) (fun (r_1 : Int32) => if x2 < r_1 then (bd1 (C_firstTop x1 cab csi cfa) (fun (r_3 : Int32) => X_inOrder_L33 FU x1 x2 cab r_3 (0 : Int32) csi cab cfa)) else (some (-5 : Int32)))
set_option maxHeartbeats 4000000 in
set_option maxRecDepth 100000 in
theorem bX_inOrder_e {Ax : Nat → Nat} {Ac : Nat → Nat} {Ad : Nat → Nat} {Ai : Nat → Nat} {Aj : Nat → Nat} {At : Nat → Nat} {Ab : Nat → Nat} {Aq : Nat → Nat} {Af : Nat → Nat} {xik : Int32} {xns : Nat → Int32} {xng : Nat → Int32} {xnn : Nat → Int32} {xbc : Int32} {xnc : Int32} {xfc : Int32} {csw : Int32} {cca : Int32} {csi : Int32} {cab : Int32} {cun : Int32} {csg : Int32} {cfa : Nat → Int32} {che : Nat → Int32} {cst : Nat → Int32} {dsw : Int32} {dca : Int32} {dsi : Int32} {dab : Int32} {dun : Int32} {dsg : Int32} {dfa : Nat → Int32} {dhe : Nat → Int32} {dst : Nat → Int32} {isw : Int32} {ica : Int32} {isi : Int32} {iab : Int32} {iun : Int32} {isg : Int32} {ifa : Nat → Int32} {ihe : Nat → Int32} {ist : Nat → Int32} {jsw : Int32} {jca : Int32} {jsi : Int32} {jab : Int32} {jun : Int32} {jsg : Int32} {jfa : Nat → Int32} {jhe : Nat → Int32} {jst : Nat → Int32} {tby : Nat → Int32} {tnu : Nat → Int32} {tln : Int32} {tat : Int32} {tsr : Int32} {ttk : Int32} {tnm : Int32} {tit : Int32} {tft : Int32} {blo : Int32} {bwh : Int32} {bow : Int32} {bom : Int32} {qhe : Nat → Int32} {qbi : Nat → Int32} {qhv : Nat → Int32} {qwo : Nat → Int32} {qts : Int32} {qbb : Int32} {qbc : Int32} {qbw : Int32} {fab : Int64} {fbe : Int64} {r0 : Int32} {x1 : Int32} {x2 : Int32} (X : Cx Γ p s m args meth c RX11 cX11_inOrder 6 (some .int) w0) (hf : X_inOrder x1 x2 csi cab cfa = some r0) (Y : Wd Γ w0 s ((WX Γ Ax Ac Ad Ai Aj At Ab Aq Af xik xns xng xnn xbc xnc xfc) ++ ((WC Γ Ac csw cca csi cab cun csg cfa che cst) ++ ((WC Γ Ad dsw dca dsi dab dun dsg dfa dhe dst) ++ ((WC Γ Ai isw ica isi iab iun isg ifa ihe ist) ++ ((WC Γ Aj jsw jca jsi jab jun jsg jfa jhe jst) ++ ((WT Γ At tby tnu tln tat tsr ttk tnm tit tft) ++ ((WB Γ Ab blo bwh bow bom) ++ ((WQ Γ Aq qhe qbi qhv qwo qts qbb qbc qbw) ++ (WF Γ Af fab fbe))))))))) H locs) (hl : lv_has ls 6 [(0, .ref (Ax 0)), (1, .int x1), (2, .int x2)]) : W p l e rmX_inOrder s m args below meth c H locs 0 0 (EI Γ below args s w0 ((WX Γ Ax Ac Ad Ai Aj At Ab Aq Af xik xns xng xnn xbc xnc xfc) ++ ((WC Γ Ac csw cca csi cab cun csg cfa che cst) ++ ((WC Γ Ad dsw dca dsi dab dun dsg dfa dhe dst) ++ ((WC Γ Ai isw ica isi iab iun isg ifa ihe ist) ++ ((WC Γ Aj jsw jca jsi jab jun jsg jfa jhe jst) ++ ((WT Γ At tby tnu tln tat tsr ttk tnm tit tft) ++ ((WB Γ Ab blo bwh bow bom) ++ ((WQ Γ Aq qhe qbi qhv qwo qts qbb qbc qbw) ++ (WF Γ Af fab fbe))))))))) r0) (F0 m 0 ls []) := by
  have hx := X.1
  have hb := X.2.1
  refine lv_iload_n hx hb dX11_inOrder_0 rfl (lv_at hl 2 rfl) ?_
  refine lv_iload_n hx hb dX11_inOrder_1 rfl (lv_at hl 1 rfl) ?_
  obtain ⟨r_1, ho_5, hf⟩ := bd1_some hf
  refine t_i Y (bk0 Y) (r_S (As := [.int x1]) (rest := [.int x2]) X (c_pre0 X Y) (cJ_bitCount ho_5) (cwX11_144 X (by decide)) rfl hl.1 (Nat.le_of_ble_eq_true rfl) rfl dX11_inOrder_2 ⟨Nat.zero_le _, Nat.zero_le _⟩) (fun H locs Y => ?_)
  refine lv_icmp_lt (tgt := 11) hx hb dX11_inOrder_5 (by decide) (fun c_2 => ?_) (fun c_2 => ?_)
  · have hf := ite_t hf c_2
    refine lv_aload_n hx hb dX11_inOrder_11 rfl (lv_at hl 0 rfl) ?_
    refine gfX11_10 X Y (v := .ref (Ac 0)) 0 rfl rfl dX11_inOrder_12 ?_
    refine gfX11_125 X Y (v := .int cab) 5 rfl rfl dX11_inOrder_15 ?_
    refine lv_istore_n (lv' := [(3, .int cab), (0, .ref (Ax 0)), (1, .int x1), (2, .int x2)]) hx hb dX11_inOrder_18 rfl hl (by decide) rfl (fun ls hl => ?_)
    refine lv_aload_n hx hb dX11_inOrder_19 rfl (lv_at hl 1 rfl) ?_
    refine gfX11_10 X Y (v := .ref (Ac 0)) 0 rfl rfl dX11_inOrder_20 ?_
    refine lv_iload_n hx hb dX11_inOrder_23 rfl (lv_at hl 2 rfl) ?_
    refine lv_iload_n hx hb dX11_inOrder_24 rfl (lv_at hl 0 rfl) ?_
    obtain ⟨r_3, ho_4, hf⟩ := bd1_some hf
    refine t_i Y (bkE Y [5, 6, 7, 8] rfl) (r_V (As := [.int x1, .int cab]) (rest := []) X (c_pre X Y [5, 6, 7, 8] rfl rfl) (cC_firstTop ho_4) (cwX11_278 X (by decide)) (va_recv X.K Y.1 (q := (RX1, TX1, 9)) (q0 := 5) (ci := 1) rfl rfl) rfl hl.1 (Nat.le_of_ble_eq_true rfl) rfl dX11_inOrder_25 ⟨Nat.zero_le _, Nat.zero_le _⟩) (fun H locs Y => ?_)
    refine lv_istore (lv' := [(4, .int r_3), (3, .int cab), (0, .ref (Ax 0)), (1, .int x1), (2, .int x2)]) hx hb dX11_inOrder_28 hl (by decide) rfl (fun ls hl => ?_)
    refine lv_iconst (v := (0 : Int32)) hx hb dX11_inOrder_30 (by decide) ?_
    refine lv_istore (lv' := [(5, .int (0 : Int32)), (4, .int r_3), (3, .int cab), (0, .ref (Ax 0)), (1, .int x1), (2, .int x2)]) hx hb dX11_inOrder_31 hl (by decide) rfl (fun ls hl => ?_)
    exact lX_inOrder_33 X _ _ _ _ _ _ _ _ _ hf _ _ _ Y (lv_sub hl [3, 4, 5, 2, 1, 0] rfl)
  · have hf := ite_f hf c_2
    refine lv_bipush (v := (-5 : Int32)) hx hb dX11_inOrder_8 (by decide) ?_
    have e90 := Option.some.inj hf
    subst e90
    exact x_iret X Y dX11_inOrder_10
theorem cX_inOrder {l : Launch} {Γ : Gm} {Ax : Nat → Nat} {Ac : Nat → Nat} {Ad : Nat → Nat} {Ai : Nat → Nat} {Aj : Nat → Nat} {At : Nat → Nat} {Ab : Nat → Nat} {Aq : Nat → Nat} {Af : Nat → Nat} {xik : Int32} {xns : Nat → Int32} {xng : Nat → Int32} {xnn : Nat → Int32} {xbc : Int32} {xnc : Int32} {xfc : Int32} {csw : Int32} {cca : Int32} {csi : Int32} {cab : Int32} {cun : Int32} {csg : Int32} {cfa : Nat → Int32} {che : Nat → Int32} {cst : Nat → Int32} {dsw : Int32} {dca : Int32} {dsi : Int32} {dab : Int32} {dun : Int32} {dsg : Int32} {dfa : Nat → Int32} {dhe : Nat → Int32} {dst : Nat → Int32} {isw : Int32} {ica : Int32} {isi : Int32} {iab : Int32} {iun : Int32} {isg : Int32} {ifa : Nat → Int32} {ihe : Nat → Int32} {ist : Nat → Int32} {jsw : Int32} {jca : Int32} {jsi : Int32} {jab : Int32} {jun : Int32} {jsg : Int32} {jfa : Nat → Int32} {jhe : Nat → Int32} {jst : Nat → Int32} {tby : Nat → Int32} {tnu : Nat → Int32} {tln : Int32} {tat : Int32} {tsr : Int32} {ttk : Int32} {tnm : Int32} {tit : Int32} {tft : Int32} {blo : Int32} {bwh : Int32} {bow : Int32} {bom : Int32} {qhe : Nat → Int32} {qbi : Nat → Int32} {qhv : Nat → Int32} {qwo : Nat → Int32} {qts : Int32} {qbb : Int32} {qbc : Int32} {qbw : Int32} {fab : Int64} {fbe : Int64} {r0 : Int32} {x1 : Int32} {x2 : Int32} (h : X_inOrder x1 x2 csi cab cfa = some r0) : CI l Γ yX11_inOrder (Cond.code yX11_inOrder cX11_inOrder 6 (some .int) :: GW) rmX_inOrder [.ref (Ax 0), .int x1, .int x2] ((WX Γ Ax Ac Ad Ai Aj At Ab Aq Af xik xns xng xnn xbc xnc xfc) ++ ((WC Γ Ac csw cca csi cab cun csg cfa che cst) ++ ((WC Γ Ad dsw dca dsi dab dun dsg dfa dhe dst) ++ ((WC Γ Ai isw ica isi iab iun isg ifa ihe ist) ++ ((WC Γ Aj jsw jca jsi jab jun jsg jfa jhe jst) ++ ((WT Γ At tby tnu tln tat tsr ttk tnm tit tft) ++ ((WB Γ Ab blo bwh bow bom) ++ ((WQ Γ Aq qhe qbi qhv qwo qts qbb qbc qbw) ++ (WF Γ Af fab fbe))))))))) ((WX Γ Ax Ac Ad Ai Aj At Ab Aq Af xik xns xng xnn xbc xnc xfc) ++ ((WC Γ Ac csw cca csi cab cun csg cfa che cst) ++ ((WC Γ Ad dsw dca dsi dab dun dsg dfa dhe dst) ++ ((WC Γ Ai isw ica isi iab iun isg ifa ihe ist) ++ ((WC Γ Aj jsw jca jsi jab jun jsg jfa jhe jst) ++ ((WT Γ At tby tnu tln tat tsr ttk tnm tit tft) ++ ((WB Γ Ab blo bwh bow bom) ++ ((WQ Γ Aq qhe qbi qhv qwo qts qbb qbc qbw) ++ (WF Γ Af fab fbe))))))))) r0 := ofBody (Qc := QcI Γ _ _ r0) (by decide) (Nat.le_of_ble_eq_true rfl) (fun p e s m below meth c ls _ X Y hl => bX_inOrder_e X h Y hl)
theorem gfX11_55 (X : Cx Γ p s m args meth c RX11 cc nL ret w0) (Y : Wd Γ w0 s ws H locs) {v : Value} (q0 : Nat) {fs : List Value} (he : ws[q0]? = some (a, .inr (11, fs))) (hv : fs[8]? = some v) (hdg : decode cc pc = .ok (.getfield 55, 3)) (kk : W p l e R s m args below meth c H locs cells slots Q (F0 m (pc + 3) ls (v :: rest))) : W p l e R s m args below meth c H locs cells slots Q (F0 m pc ls (.ref a :: rest)) := x_get X Y iX11 rfl 8 (by decide) rfl kw503 q0 he hv hdg kk
theorem cwX11_79 (X : Cx Γ p s m args meth c RX11 cc nL ret w0) (hR : rmC_restart.frames + 1 ≤ R.frames ∧ 8 + (3 + 11) + rmC_restart.locals ≤ R.locals) : CallW R s args RX11 RX1 79 yX1_restart cX1_restart 3 none (Cond.code yX1_restart cX1_restart 3 none :: GW) rmC_restart 0 0 2 := cw_V X kw504 kw455 kw456 kw228 kw457 dmX1_restartV rfl rfl hR
theorem dmX11_refuseV : yX11_refuse.cls = RX11 ∧ yX11_refuse.cls ≠ "java/lang/invoke/MethodHandle" ∧ yX11_refuse.cls ≠ "java/lang/invoke/VarHandle" ∧ (parseMethodDescriptor yX11_refuse.desc).map (fun d => d.parameters.length) = some 1 := by decide +kernel
theorem cwX11_71 (X : Cx Γ p s m args meth c RX11 cc nL ret w0) (hR : rmX_refuse.frames + 1 ≤ R.frames ∧ 8 + (2 + 11) + rmX_refuse.locals ≤ R.locals) : CallW R s args RX11 RX11 71 yX11_refuse cX11_refuse 2 (some .int) (Cond.code yX11_refuse cX11_refuse 2 (some .int) :: GW) rmX_refuse 0 0 1 := cw_V X kw505 kw506 kw507 kw220 kw508 dmX11_refuseV rfl rfl hR
theorem dmX11_allWithinS : yX11_allWithin.cls ≠ "java/lang/invoke/MethodHandle" ∧ yX11_allWithin.cls ≠ "java/lang/invoke/VarHandle" ∧ (parseMethodDescriptor yX11_allWithin.desc).map (fun d => d.parameters.length) = some 3 := by decide +kernel
theorem cwX11_67_X_allWithin2 (X : Cx Γ p s m args meth c RX11 cc nL ret w0) (hR : rmX_allWithin2.frames + 1 ≤ R.frames ∧ 8 + (4 + 11) + rmX_allWithin2.locals ≤ R.locals) : CallB R s args RX11 67 yX11_allWithin cX11_allWithin 4 (some .boolean) (Cond.code yX11_allWithin cX11_allWithin 4 (some .boolean) :: GW) rmX_allWithin2 0 0 3 ∧ (Cond.static yX11_allWithin).before args s = true := cw_S X kw509 kw510 kw220 kw511 dmX11_allWithinS rfl rfl hR
def rmX_ship : Room := { frames := 2, cells := 0, slots := 0, locals := 45 }
def X_ship (x1 : Int32) (x2 : Int32) (xns : Nat → Int32) (xbc : Int32) (xnc : Int32) (xfc : Int32) (csw : Int32) (cca : Int32) (csi : Int32) (cab : Int32) (cun : Int32) (csg : Int32) : Option (Int32 × (Nat → Int32) × Int32 × Int32 × Int32 × Int32 × Int32 × Int32 × Int32 × Int32 × Int32) := bnd (upd xns 0 x1) (fun (xns_1 : Nat → Int32) => bnd (upd xns_1 1 x2) (fun (xns_2 : Nat → Int32) => bd1 (X_allWithin2 xns_2) (fun (r_3 : Int32) => if r_3 = 0 then (bd4 (X_refuse (-2 : Int32) xbc xnc xfc) (fun (r_12 : Int32) (xbc_13 : Int32) (xnc_14 : Int32) (xfc_15 : Int32) => some (r_12, xns_2, xbc_13, xnc_14, xfc_15, csw, cca, csi, cab, cun, csg))) else (bd6 (C_restart x1 x2 csw cca csi cab cun csg) (fun (csw_5 : Int32) (cca_6 : Int32) (csi_7 : Int32) (cab_8 : Int32) (cun_9 : Int32) (csg_10 : Int32) => some (csi, xns_2, xbc, xnc, xfc, csw_5, cca_6, csi_7, cab_8, cun_9, csg_10))))))
set_option maxHeartbeats 4000000 in
set_option maxRecDepth 100000 in
theorem bX_ship_e {Ax : Nat → Nat} {Ac : Nat → Nat} {Ad : Nat → Nat} {Ai : Nat → Nat} {Aj : Nat → Nat} {At : Nat → Nat} {Ab : Nat → Nat} {Aq : Nat → Nat} {Af : Nat → Nat} {xik : Int32} {xns : Nat → Int32} {xng : Nat → Int32} {xnn : Nat → Int32} {xbc : Int32} {xnc : Int32} {xfc : Int32} {csw : Int32} {cca : Int32} {csi : Int32} {cab : Int32} {cun : Int32} {csg : Int32} {cfa : Nat → Int32} {che : Nat → Int32} {cst : Nat → Int32} {dsw : Int32} {dca : Int32} {dsi : Int32} {dab : Int32} {dun : Int32} {dsg : Int32} {dfa : Nat → Int32} {dhe : Nat → Int32} {dst : Nat → Int32} {isw : Int32} {ica : Int32} {isi : Int32} {iab : Int32} {iun : Int32} {isg : Int32} {ifa : Nat → Int32} {ihe : Nat → Int32} {ist : Nat → Int32} {jsw : Int32} {jca : Int32} {jsi : Int32} {jab : Int32} {jun : Int32} {jsg : Int32} {jfa : Nat → Int32} {jhe : Nat → Int32} {jst : Nat → Int32} {tby : Nat → Int32} {tnu : Nat → Int32} {tln : Int32} {tat : Int32} {tsr : Int32} {ttk : Int32} {tnm : Int32} {tit : Int32} {tft : Int32} {blo : Int32} {bwh : Int32} {bow : Int32} {bom : Int32} {qhe : Nat → Int32} {qbi : Nat → Int32} {qhv : Nat → Int32} {qwo : Nat → Int32} {qts : Int32} {qbb : Int32} {qbc : Int32} {qbw : Int32} {fab : Int64} {fbe : Int64} {xns_z : Nat → Int32} {xbc_z : Int32} {xnc_z : Int32} {xfc_z : Int32} {csw_z : Int32} {cca_z : Int32} {csi_z : Int32} {cab_z : Int32} {cun_z : Int32} {csg_z : Int32} {r0 : Int32} {x1 : Int32} {x2 : Int32} (X : Cx Γ p s m args meth c RX11 cX11_ship 4 (some .int) w0) (hf : X_ship x1 x2 xns xbc xnc xfc csw cca csi cab cun csg = some (r0, xns_z, xbc_z, xnc_z, xfc_z, csw_z, cca_z, csi_z, cab_z, cun_z, csg_z)) (Y : Wd Γ w0 s ((WX Γ Ax Ac Ad Ai Aj At Ab Aq Af xik xns xng xnn xbc xnc xfc) ++ ((WC Γ Ac csw cca csi cab cun csg cfa che cst) ++ ((WC Γ Ad dsw dca dsi dab dun dsg dfa dhe dst) ++ ((WC Γ Ai isw ica isi iab iun isg ifa ihe ist) ++ ((WC Γ Aj jsw jca jsi jab jun jsg jfa jhe jst) ++ ((WT Γ At tby tnu tln tat tsr ttk tnm tit tft) ++ ((WB Γ Ab blo bwh bow bom) ++ ((WQ Γ Aq qhe qbi qhv qwo qts qbb qbc qbw) ++ (WF Γ Af fab fbe))))))))) H locs) (hl : lv_has ls 4 [(0, .ref (Ax 0)), (1, .int x1), (2, .int x2)]) : W p l e rmX_ship s m args below meth c H locs 0 0 (EI Γ below args s w0 ((WX Γ Ax Ac Ad Ai Aj At Ab Aq Af xik xns_z xng xnn xbc_z xnc_z xfc_z) ++ ((WC Γ Ac csw_z cca_z csi_z cab_z cun_z csg_z cfa che cst) ++ ((WC Γ Ad dsw dca dsi dab dun dsg dfa dhe dst) ++ ((WC Γ Ai isw ica isi iab iun isg ifa ihe ist) ++ ((WC Γ Aj jsw jca jsi jab jun jsg jfa jhe jst) ++ ((WT Γ At tby tnu tln tat tsr ttk tnm tit tft) ++ ((WB Γ Ab blo bwh bow bom) ++ ((WQ Γ Aq qhe qbi qhv qwo qts qbb qbc qbw) ++ (WF Γ Af fab fbe))))))))) r0) (F0 m 0 ls []) := by
  have hx := X.1
  have hb := X.2.1
  refine lv_aload_n hx hb dX11_ship_0 rfl (lv_at hl 0 rfl) ?_
  refine gfX11_55 X Y (v := .ref (Ax 2)) 0 rfl rfl dX11_ship_1 ?_
  refine lv_iconst (v := (0 : Int32)) hx hb dX11_ship_4 (by decide) ?_
  refine lv_iload_n hx hb dX11_ship_5 rfl (lv_at hl 1 rfl) ?_
  obtain ⟨xns_1, e_xns_1⟩ : ∃ z : Nat → Int32, z = (upd xns 0 x1) := ⟨_, rfl⟩
  have hf := bnd_eq hf e_xns_1
  refine x_iast X Y 2 rfl (j := 0) rfl rfl (ws' := ((WX Γ Ax Ac Ad Ai Aj At Ab Aq Af xik xns_1 xng xnn xbc xnc xfc) ++ ((WC Γ Ac csw cca csi cab cun csg cfa che cst) ++ ((WC Γ Ad dsw dca dsi dab dun dsg dfa dhe dst) ++ ((WC Γ Ai isw ica isi iab iun isg ifa ihe ist) ++ ((WC Γ Aj jsw jca jsi jab jun jsg jfa jhe jst) ++ ((WT Γ At tby tnu tln tat tsr ttk tnm tit tft) ++ ((WB Γ Ab blo bwh bow bom) ++ ((WQ Γ Aq qhe qbi qhv qwo qts qbb qbc qbw) ++ (WF Γ Af fab fbe)))))))))) (by subst e_xns_1; rfl) dX11_ship_6 (fun H locs Y => ?_)
  refine lv_aload_n hx hb dX11_ship_7 rfl (lv_at hl 0 rfl) ?_
  refine gfX11_55 X Y (v := .ref (Ax 2)) 0 rfl rfl dX11_ship_8 ?_
  refine lv_iconst (v := (1 : Int32)) hx hb dX11_ship_11 (by decide) ?_
  refine lv_iload_n hx hb dX11_ship_12 rfl (lv_at hl 2 rfl) ?_
  obtain ⟨xns_2, e_xns_2⟩ : ∃ z : Nat → Int32, z = (upd xns_1 1 x2) := ⟨_, rfl⟩
  have hf := bnd_eq hf e_xns_2
  refine x_iast X Y 2 rfl (j := 1) rfl rfl (ws' := ((WX Γ Ax Ac Ad Ai Aj At Ab Aq Af xik xns_2 xng xnn xbc xnc xfc) ++ ((WC Γ Ac csw cca csi cab cun csg cfa che cst) ++ ((WC Γ Ad dsw dca dsi dab dun dsg dfa dhe dst) ++ ((WC Γ Ai isw ica isi iab iun isg ifa ihe ist) ++ ((WC Γ Aj jsw jca jsi jab jun jsg jfa jhe jst) ++ ((WT Γ At tby tnu tln tat tsr ttk tnm tit tft) ++ ((WB Γ Ab blo bwh bow bom) ++ ((WQ Γ Aq qhe qbi qhv qwo qts qbb qbc qbw) ++ (WF Γ Af fab fbe)))))))))) (by subst e_xns_2; rfl) dX11_ship_13 (fun H locs Y => ?_)
  refine lv_aload_n hx hb dX11_ship_14 rfl (lv_at hl 0 rfl) ?_
  refine gfX11_55 X Y (v := .ref (Ax 2)) 0 rfl rfl dX11_ship_15 ?_
  refine x_gets X Y 0 (q := ("SHIP_LEAST", [0, 0])) rfl kw513 dX11_ship_18 ?_
  refine x_gets X Y 1 (q := ("SHIP_MOST", [99, 200])) rfl kw512 dX11_ship_21 ?_
  obtain ⟨r_3, ho_17, hf⟩ := bd1_some hf
  refine t_i Y (bkE Y [2] rfl) (r_S (As := [.ref (Ax 2), .ref (Γ.2.2 0), .ref (Γ.2.2 1)]) (rest := []) X (c_pre X Y [2] rfl rfl) (cX_allWithin2 (Ar := fun _ => Ax 2) ho_17) (cwX11_67_X_allWithin2 X (by decide)) rfl hl.1 (Nat.le_of_ble_eq_true rfl) rfl dX11_ship_24 ⟨Nat.zero_le _, Nat.zero_le _⟩) (fun H locs Y => ?_)
  refine lv_if_ne (tgt := 37) hx hb dX11_ship_27 (by decide) (fun c_4 => ?_) (fun c_4 => ?_)
  · have hf := ite_f hf c_4
    refine lv_aload_n hx hb dX11_ship_37 rfl (lv_at hl 0 rfl) ?_
    refine gfX11_10 X Y (v := .ref (Ac 0)) 0 rfl rfl dX11_ship_38 ?_
    refine gfX11_75 X Y (v := .int csi) 5 rfl rfl dX11_ship_41 ?_
    refine lv_istore_n (lv' := [(3, .int csi), (0, .ref (Ax 0)), (1, .int x1), (2, .int x2)]) hx hb dX11_ship_44 rfl hl (by decide) rfl (fun ls hl => ?_)
    refine lv_aload_n hx hb dX11_ship_45 rfl (lv_at hl 1 rfl) ?_
    refine gfX11_10 X Y (v := .ref (Ac 0)) 0 rfl rfl dX11_ship_46 ?_
    refine lv_iload_n hx hb dX11_ship_49 rfl (lv_at hl 2 rfl) ?_
    refine lv_iload_n hx hb dX11_ship_50 rfl (lv_at hl 3 rfl) ?_
    obtain ⟨csw_5, cca_6, csi_7, cab_8, cun_9, csg_10, ho_11, hf⟩ := bd6_some hf
    refine t_v Y (bk Y [5, 6, 7, 8] [0, 1, 2, 3, 4, 9, 10, 11, 12, 13, 14, 15, 16, 17, 18, 19, 20, 21, 22, 23, 24, 25, 26, 27, 28, 29, 30, 31, 32, 33, 34, 35, 36, 37] [0, 1, 2, 3, 4, 34, 35, 36, 37, 5, 6, 7, 8, 9, 10, 11, 12, 13, 14, 15, 16, 17, 18, 19, 20, 21, 22, 23, 24, 25, 26, 27, 28, 29, 30, 31, 32, 33] (wr := [(Ax 0, .inr (11, [.ref (Ac 0), .ref (Ad 0), .ref (Ax 1), .int xik, .ref (At 0), .ref (Ab 0), .ref (Aq 0), .ref (Af 0), .ref (Ax 2), .ref (Ax 3), .ref (Ax 4), .int xbc, .int xnc, .int xfc])), (Ax 1, .inl (Γ.2.1 4, 2, .inr (.inr (.inr (.inr (fun j => some (if j = 0 then Ai 0 else Aj 0))))))), (Ax 2, .inl (Γ.2.1 0, 2, .inl xns_2)), (Ax 3, .inl (Γ.2.1 0, 6, .inl xng)), (Ax 4, .inl (Γ.2.1 0, 3, .inl xnn)), (Ad 0, .inr (1, [.int dsw, .int dca, .int dsi, .int dab, .int dun, .int dsg, .ref (Ad 1), .ref (Ad 2), .ref (Ad 3)])), (Ad 1, .inl (Γ.2.1 0, 48, .inl dfa)), (Ad 2, .inl (Γ.2.1 0, 8, .inl dhe)), (Ad 3, .inl (Γ.2.1 0, 18, .inl dst)), (Ai 0, .inr (1, [.int isw, .int ica, .int isi, .int iab, .int iun, .int isg, .ref (Ai 1), .ref (Ai 2), .ref (Ai 3)])), (Ai 1, .inl (Γ.2.1 0, 48, .inl ifa)), (Ai 2, .inl (Γ.2.1 0, 8, .inl ihe)), (Ai 3, .inl (Γ.2.1 0, 18, .inl ist)), (Aj 0, .inr (1, [.int jsw, .int jca, .int jsi, .int jab, .int jun, .int jsg, .ref (Aj 1), .ref (Aj 2), .ref (Aj 3)])), (Aj 1, .inl (Γ.2.1 0, 48, .inl jfa)), (Aj 2, .inl (Γ.2.1 0, 8, .inl jhe)), (Aj 3, .inl (Γ.2.1 0, 18, .inl jst)), (At 0, .inr (10, [.ref (At 1), .ref (At 2), .int tln, .int tat, .int tsr, .int ttk, .int tnm, .int tit, .int tft])), (At 1, .inl (Γ.2.1 1, 150, .inl tby)), (At 2, .inl (Γ.2.1 0, 6, .inl tnu)), (Ab 0, .inr (0, [.ref (Ab 1), .int blo, .int bwh, .int bow, .int bom])), (Ab 1, .inl (Γ.2.1 3, 6, .inr (.inr (.inr (.inr (fun j => some (Ab (2 + j)))))))), (Ab 2, .inr (8, [])), (Ab 3, .inr (2, [])), (Ab 4, .inr (5, [])), (Ab 5, .inr (9, [])), (Ab 6, .inr (7, [])), (Ab 7, .inr (4, [])), (Aq 0, .inr (6, [.ref (Aq 1), .ref (Aq 2), .ref (Aq 3), .ref (Aq 4), .int qts, .int qbb, .int qbc, .int qbw])), (Aq 1, .inl (Γ.2.1 0, 3, .inl qhe)), (Aq 2, .inl (Γ.2.1 0, 27, .inl qbi)), (Aq 3, .inl (Γ.2.1 0, 27, .inl qhv)), (Aq 4, .inl (Γ.2.1 0, 27, .inl qwo)), (Af 0, .inr (3, [.long fab, .long fbe]))]) (ws' := ((WX Γ Ax Ac Ad Ai Aj At Ab Aq Af xik xns_2 xng xnn xbc xnc xfc) ++ ((WC Γ Ac csw_5 cca_6 csi_7 cab_8 cun_9 csg_10 cfa che cst) ++ ((WC Γ Ad dsw dca dsi dab dun dsg dfa dhe dst) ++ ((WC Γ Ai isw ica isi iab iun isg ifa ihe ist) ++ ((WC Γ Aj jsw jca jsi jab jun jsg jfa jhe jst) ++ ((WT Γ At tby tnu tln tat tsr ttk tnm tit tft) ++ ((WB Γ Ab blo bwh bow bom) ++ ((WQ Γ Aq qhe qbi qhv qwo qts qbb qbc qbw) ++ (WF Γ Af fab fbe)))))))))) rfl rfl rfl (by decide) rfl rfl) (r_V (As := [.int x1, .int x2]) (rest := []) X (c_pre X Y [5, 6, 7, 8] rfl rfl) (cC_restart ho_11) (cwX11_79 X (by decide)) (va_recv X.K Y.1 (q := (RX1, TX1, 9)) (q0 := 5) (ci := 1) rfl rfl) rfl hl.1 (Nat.le_of_ble_eq_true rfl) rfl dX11_ship_51 ⟨Nat.zero_le _, Nat.zero_le _⟩) (fun H locs Y => ?_)
    refine lv_iload_n hx hb dX11_ship_54 rfl (lv_at hl 0 rfl) ?_
    obtain ⟨e90, e91, e92, e93, e94, e95, e96, e97, e98, e99, e910⟩ := sj11 hf
    subst e90
    subst e91
    subst e92
    subst e93
    subst e94
    subst e95
    subst e96
    subst e97
    subst e98
    subst e99
    subst e910
    exact x_iret X Y dX11_ship_55
  · have hf := ite_t hf c_4
    refine lv_aload_n hx hb dX11_ship_30 rfl (lv_at hl 0 rfl) ?_
    refine lv_bipush (v := (-2 : Int32)) hx hb dX11_ship_31 (by decide) ?_
    obtain ⟨r_12, xbc_13, xnc_14, xfc_15, ho_16, hf⟩ := bd4_some hf
    refine t_i Y (bkS Y) (r_V (As := [.int (-2 : Int32)]) (rest := []) X (c_preS X Y) (cX_refuse ho_16) (cwX11_71 X (by decide)) (va_recv X.K Y.1 (q := (RX11, TX11, 14)) (q0 := 0) (ci := 11) rfl rfl) rfl hl.1 (Nat.le_of_ble_eq_true rfl) rfl dX11_ship_33 ⟨Nat.zero_le _, Nat.zero_le _⟩) (fun H locs Y => ?_)
    obtain ⟨e90, e91, e92, e93, e94, e95, e96, e97, e98, e99, e910⟩ := sj11 hf
    subst e90
    subst e91
    subst e92
    subst e93
    subst e94
    subst e95
    subst e96
    subst e97
    subst e98
    subst e99
    subst e910
    exact x_iret X Y dX11_ship_36
theorem cX_ship {l : Launch} {Γ : Gm} {Ax : Nat → Nat} {Ac : Nat → Nat} {Ad : Nat → Nat} {Ai : Nat → Nat} {Aj : Nat → Nat} {At : Nat → Nat} {Ab : Nat → Nat} {Aq : Nat → Nat} {Af : Nat → Nat} {xik : Int32} {xns : Nat → Int32} {xng : Nat → Int32} {xnn : Nat → Int32} {xbc : Int32} {xnc : Int32} {xfc : Int32} {csw : Int32} {cca : Int32} {csi : Int32} {cab : Int32} {cun : Int32} {csg : Int32} {cfa : Nat → Int32} {che : Nat → Int32} {cst : Nat → Int32} {dsw : Int32} {dca : Int32} {dsi : Int32} {dab : Int32} {dun : Int32} {dsg : Int32} {dfa : Nat → Int32} {dhe : Nat → Int32} {dst : Nat → Int32} {isw : Int32} {ica : Int32} {isi : Int32} {iab : Int32} {iun : Int32} {isg : Int32} {ifa : Nat → Int32} {ihe : Nat → Int32} {ist : Nat → Int32} {jsw : Int32} {jca : Int32} {jsi : Int32} {jab : Int32} {jun : Int32} {jsg : Int32} {jfa : Nat → Int32} {jhe : Nat → Int32} {jst : Nat → Int32} {tby : Nat → Int32} {tnu : Nat → Int32} {tln : Int32} {tat : Int32} {tsr : Int32} {ttk : Int32} {tnm : Int32} {tit : Int32} {tft : Int32} {blo : Int32} {bwh : Int32} {bow : Int32} {bom : Int32} {qhe : Nat → Int32} {qbi : Nat → Int32} {qhv : Nat → Int32} {qwo : Nat → Int32} {qts : Int32} {qbb : Int32} {qbc : Int32} {qbw : Int32} {fab : Int64} {fbe : Int64} {xns_z : Nat → Int32} {xbc_z : Int32} {xnc_z : Int32} {xfc_z : Int32} {csw_z : Int32} {cca_z : Int32} {csi_z : Int32} {cab_z : Int32} {cun_z : Int32} {csg_z : Int32} {r0 : Int32} {x1 : Int32} {x2 : Int32} (h : X_ship x1 x2 xns xbc xnc xfc csw cca csi cab cun csg = some (r0, xns_z, xbc_z, xnc_z, xfc_z, csw_z, cca_z, csi_z, cab_z, cun_z, csg_z)) : CI l Γ yX11_ship (Cond.code yX11_ship cX11_ship 4 (some .int) :: GW) rmX_ship [.ref (Ax 0), .int x1, .int x2] ((WX Γ Ax Ac Ad Ai Aj At Ab Aq Af xik xns xng xnn xbc xnc xfc) ++ ((WC Γ Ac csw cca csi cab cun csg cfa che cst) ++ ((WC Γ Ad dsw dca dsi dab dun dsg dfa dhe dst) ++ ((WC Γ Ai isw ica isi iab iun isg ifa ihe ist) ++ ((WC Γ Aj jsw jca jsi jab jun jsg jfa jhe jst) ++ ((WT Γ At tby tnu tln tat tsr ttk tnm tit tft) ++ ((WB Γ Ab blo bwh bow bom) ++ ((WQ Γ Aq qhe qbi qhv qwo qts qbb qbc qbw) ++ (WF Γ Af fab fbe))))))))) ((WX Γ Ax Ac Ad Ai Aj At Ab Aq Af xik xns_z xng xnn xbc_z xnc_z xfc_z) ++ ((WC Γ Ac csw_z cca_z csi_z cab_z cun_z csg_z cfa che cst) ++ ((WC Γ Ad dsw dca dsi dab dun dsg dfa dhe dst) ++ ((WC Γ Ai isw ica isi iab iun isg ifa ihe ist) ++ ((WC Γ Aj jsw jca jsi jab jun jsg jfa jhe jst) ++ ((WT Γ At tby tnu tln tat tsr ttk tnm tit tft) ++ ((WB Γ Ab blo bwh bow bom) ++ ((WQ Γ Aq qhe qbi qhv qwo qts qbb qbc qbw) ++ (WF Γ Af fab fbe))))))))) r0 := ofBody (Qc := QcI Γ _ _ r0) (by decide) (Nat.le_of_ble_eq_true rfl) (fun p e s m below meth c ls _ X Y hl => bX_ship_e X h Y hl)
theorem gfX11_58 (X : Cx Γ p s m args meth c RX11 cc nL ret w0) (Y : Wd Γ w0 s ws H locs) {v : Value} (q0 : Nat) {fs : List Value} (he : ws[q0]? = some (a, .inr (11, fs))) (hv : fs[9]? = some v) (hdg : decode cc pc = .ok (.getfield 58, 3)) (kk : W p l e R s m args below meth c H locs cells slots Q (F0 m (pc + 3) ls (v :: rest))) : W p l e R s m args below meth c H locs cells slots Q (F0 m pc ls (.ref a :: rest)) := x_get X Y iX11 rfl 9 (by decide) rfl kw514 q0 he hv hdg kk
theorem cwX11_89 (X : Cx Γ p s m args meth c RX11 cc nL ret w0) (hR : rmC_load.frames + 1 ≤ R.frames ∧ 8 + (2 + 11) + rmC_load.locals ≤ R.locals) : CallW R s args RX11 RX1 89 yX1_load cX1_load 2 (some .int) (Cond.code yX1_load cX1_load 2 (some .int) :: GW) rmC_load 0 0 1 := cw_V X kw515 kw466 kw467 kw228 kw468 dmX1_loadV rfl rfl hR
theorem cwX11_67_X_allWithin6 (X : Cx Γ p s m args meth c RX11 cc nL ret w0) (hR : rmX_allWithin6.frames + 1 ≤ R.frames ∧ 8 + (4 + 11) + rmX_allWithin6.locals ≤ R.locals) : CallB R s args RX11 67 yX11_allWithin cX11_allWithin 4 (some .boolean) (Cond.code yX11_allWithin cX11_allWithin 4 (some .boolean) :: GW) rmX_allWithin6 0 0 3 ∧ (Cond.static yX11_allWithin).before args s = true := cw_S X kw509 kw510 kw220 kw511 dmX11_allWithinS rfl rfl hR
def rmX_goods : Room := { frames := 2, cells := 0, slots := 0, locals := 61 }
def X_goods (x1 : Int32) (x2 : Int32) (x3 : Int32) (x4 : Int32) (x5 : Int32) (x6 : Int32) (xng : Nat → Int32) (xbc : Int32) (xnc : Int32) (xfc : Int32) (csi : Int32) (cab : Int32) (cun : Int32) (cfa : Nat → Int32) : Option (Int32 × (Nat → Int32) × Int32 × Int32 × Int32 × Int32 × Int32 × Int32 × (Nat → Int32)) := bnd (upd xng 0 x1) (fun (xng_1 : Nat → Int32) => bnd (upd xng_1 1 x2) (fun (xng_2 : Nat → Int32) => bnd (upd xng_2 2 x3) (fun (xng_3 : Nat → Int32) => bnd (upd xng_3 3 x4) (fun (xng_4 : Nat → Int32) => bnd (upd xng_4 4 x5) (fun (xng_5 : Nat → Int32) => bnd (upd xng_5 5 x6) (fun (xng_6 : Nat → Int32) => bd1 (X_allWithin6 xng_6) (fun (r_7 : Int32) => if r_7 = 0 then (bd4 (X_refuse (-2 : Int32) xbc xnc xfc) (fun (r_21 : Int32) (xbc_22 : Int32) (xnc_23 : Int32) (xfc_24 : Int32) => some (r_21, xng_6, xbc_22, xnc_23, xfc_24, csi, cab, cun, cfa))) else (bd5 (C_load csi cab cun cfa xng_6) (fun (r_9 : Int32) (csi_10 : Int32) (cab_11 : Int32) (cun_12 : Int32) (cfa_13 : Nat → Int32) => if r_9 = (-1 : Int32) then (bd4 (X_refuse (-4 : Int32) xbc xnc xfc) (fun (r_15 : Int32) (xbc_16 : Int32) (xnc_17 : Int32) (xfc_18 : Int32) => some (r_15, xng_6, xbc_16, xnc_17, xfc_18, csi_10, cab_11, cun_12, cfa_13))) else (some (r_9, xng_6, xbc, xnc, xfc, csi_10, cab_11, cun_12, cfa_13)))))))))))
set_option maxHeartbeats 4000000 in
set_option maxRecDepth 100000 in
theorem bX_goods_e {Ax : Nat → Nat} {Ac : Nat → Nat} {Ad : Nat → Nat} {Ai : Nat → Nat} {Aj : Nat → Nat} {At : Nat → Nat} {Ab : Nat → Nat} {Aq : Nat → Nat} {Af : Nat → Nat} {xik : Int32} {xns : Nat → Int32} {xng : Nat → Int32} {xnn : Nat → Int32} {xbc : Int32} {xnc : Int32} {xfc : Int32} {csw : Int32} {cca : Int32} {csi : Int32} {cab : Int32} {cun : Int32} {csg : Int32} {cfa : Nat → Int32} {che : Nat → Int32} {cst : Nat → Int32} {dsw : Int32} {dca : Int32} {dsi : Int32} {dab : Int32} {dun : Int32} {dsg : Int32} {dfa : Nat → Int32} {dhe : Nat → Int32} {dst : Nat → Int32} {isw : Int32} {ica : Int32} {isi : Int32} {iab : Int32} {iun : Int32} {isg : Int32} {ifa : Nat → Int32} {ihe : Nat → Int32} {ist : Nat → Int32} {jsw : Int32} {jca : Int32} {jsi : Int32} {jab : Int32} {jun : Int32} {jsg : Int32} {jfa : Nat → Int32} {jhe : Nat → Int32} {jst : Nat → Int32} {tby : Nat → Int32} {tnu : Nat → Int32} {tln : Int32} {tat : Int32} {tsr : Int32} {ttk : Int32} {tnm : Int32} {tit : Int32} {tft : Int32} {blo : Int32} {bwh : Int32} {bow : Int32} {bom : Int32} {qhe : Nat → Int32} {qbi : Nat → Int32} {qhv : Nat → Int32} {qwo : Nat → Int32} {qts : Int32} {qbb : Int32} {qbc : Int32} {qbw : Int32} {fab : Int64} {fbe : Int64} {xng_z : Nat → Int32} {xbc_z : Int32} {xnc_z : Int32} {xfc_z : Int32} {csi_z : Int32} {cab_z : Int32} {cun_z : Int32} {cfa_z : Nat → Int32} {r0 : Int32} {x1 : Int32} {x2 : Int32} {x3 : Int32} {x4 : Int32} {x5 : Int32} {x6 : Int32} (X : Cx Γ p s m args meth c RX11 cX11_goods 8 (some .int) w0) (hf : X_goods x1 x2 x3 x4 x5 x6 xng xbc xnc xfc csi cab cun cfa = some (r0, xng_z, xbc_z, xnc_z, xfc_z, csi_z, cab_z, cun_z, cfa_z)) (Y : Wd Γ w0 s ((WX Γ Ax Ac Ad Ai Aj At Ab Aq Af xik xns xng xnn xbc xnc xfc) ++ ((WC Γ Ac csw cca csi cab cun csg cfa che cst) ++ ((WC Γ Ad dsw dca dsi dab dun dsg dfa dhe dst) ++ ((WC Γ Ai isw ica isi iab iun isg ifa ihe ist) ++ ((WC Γ Aj jsw jca jsi jab jun jsg jfa jhe jst) ++ ((WT Γ At tby tnu tln tat tsr ttk tnm tit tft) ++ ((WB Γ Ab blo bwh bow bom) ++ ((WQ Γ Aq qhe qbi qhv qwo qts qbb qbc qbw) ++ (WF Γ Af fab fbe))))))))) H locs) (hl : lv_has ls 8 [(0, .ref (Ax 0)), (1, .int x1), (2, .int x2), (3, .int x3), (4, .int x4), (5, .int x5), (6, .int x6)]) : W p l e rmX_goods s m args below meth c H locs 0 0 (EI Γ below args s w0 ((WX Γ Ax Ac Ad Ai Aj At Ab Aq Af xik xns xng_z xnn xbc_z xnc_z xfc_z) ++ ((WC Γ Ac csw cca csi_z cab_z cun_z csg cfa_z che cst) ++ ((WC Γ Ad dsw dca dsi dab dun dsg dfa dhe dst) ++ ((WC Γ Ai isw ica isi iab iun isg ifa ihe ist) ++ ((WC Γ Aj jsw jca jsi jab jun jsg jfa jhe jst) ++ ((WT Γ At tby tnu tln tat tsr ttk tnm tit tft) ++ ((WB Γ Ab blo bwh bow bom) ++ ((WQ Γ Aq qhe qbi qhv qwo qts qbb qbc qbw) ++ (WF Γ Af fab fbe))))))))) r0) (F0 m 0 ls []) := by
  have hx := X.1
  have hb := X.2.1
  refine lv_aload_n hx hb dX11_goods_0 rfl (lv_at hl 0 rfl) ?_
  refine gfX11_58 X Y (v := .ref (Ax 3)) 0 rfl rfl dX11_goods_1 ?_
  refine lv_iconst (v := (0 : Int32)) hx hb dX11_goods_4 (by decide) ?_
  refine lv_iload_n hx hb dX11_goods_5 rfl (lv_at hl 1 rfl) ?_
  obtain ⟨xng_1, e_xng_1⟩ : ∃ z : Nat → Int32, z = (upd xng 0 x1) := ⟨_, rfl⟩
  have hf := bnd_eq hf e_xng_1
  refine x_iast X Y 3 rfl (j := 0) rfl rfl (ws' := ((WX Γ Ax Ac Ad Ai Aj At Ab Aq Af xik xns xng_1 xnn xbc xnc xfc) ++ ((WC Γ Ac csw cca csi cab cun csg cfa che cst) ++ ((WC Γ Ad dsw dca dsi dab dun dsg dfa dhe dst) ++ ((WC Γ Ai isw ica isi iab iun isg ifa ihe ist) ++ ((WC Γ Aj jsw jca jsi jab jun jsg jfa jhe jst) ++ ((WT Γ At tby tnu tln tat tsr ttk tnm tit tft) ++ ((WB Γ Ab blo bwh bow bom) ++ ((WQ Γ Aq qhe qbi qhv qwo qts qbb qbc qbw) ++ (WF Γ Af fab fbe)))))))))) (by subst e_xng_1; rfl) dX11_goods_6 (fun H locs Y => ?_)
  refine lv_aload_n hx hb dX11_goods_7 rfl (lv_at hl 0 rfl) ?_
  refine gfX11_58 X Y (v := .ref (Ax 3)) 0 rfl rfl dX11_goods_8 ?_
  refine lv_iconst (v := (1 : Int32)) hx hb dX11_goods_11 (by decide) ?_
  refine lv_iload_n hx hb dX11_goods_12 rfl (lv_at hl 2 rfl) ?_
  obtain ⟨xng_2, e_xng_2⟩ : ∃ z : Nat → Int32, z = (upd xng_1 1 x2) := ⟨_, rfl⟩
  have hf := bnd_eq hf e_xng_2
  refine x_iast X Y 3 rfl (j := 1) rfl rfl (ws' := ((WX Γ Ax Ac Ad Ai Aj At Ab Aq Af xik xns xng_2 xnn xbc xnc xfc) ++ ((WC Γ Ac csw cca csi cab cun csg cfa che cst) ++ ((WC Γ Ad dsw dca dsi dab dun dsg dfa dhe dst) ++ ((WC Γ Ai isw ica isi iab iun isg ifa ihe ist) ++ ((WC Γ Aj jsw jca jsi jab jun jsg jfa jhe jst) ++ ((WT Γ At tby tnu tln tat tsr ttk tnm tit tft) ++ ((WB Γ Ab blo bwh bow bom) ++ ((WQ Γ Aq qhe qbi qhv qwo qts qbb qbc qbw) ++ (WF Γ Af fab fbe)))))))))) (by subst e_xng_2; rfl) dX11_goods_13 (fun H locs Y => ?_)
  refine lv_aload_n hx hb dX11_goods_14 rfl (lv_at hl 0 rfl) ?_
  refine gfX11_58 X Y (v := .ref (Ax 3)) 0 rfl rfl dX11_goods_15 ?_
  refine lv_iconst (v := (2 : Int32)) hx hb dX11_goods_18 (by decide) ?_
  refine lv_iload_n hx hb dX11_goods_19 rfl (lv_at hl 3 rfl) ?_
  obtain ⟨xng_3, e_xng_3⟩ : ∃ z : Nat → Int32, z = (upd xng_2 2 x3) := ⟨_, rfl⟩
  have hf := bnd_eq hf e_xng_3
  refine x_iast X Y 3 rfl (j := 2) rfl rfl (ws' := ((WX Γ Ax Ac Ad Ai Aj At Ab Aq Af xik xns xng_3 xnn xbc xnc xfc) ++ ((WC Γ Ac csw cca csi cab cun csg cfa che cst) ++ ((WC Γ Ad dsw dca dsi dab dun dsg dfa dhe dst) ++ ((WC Γ Ai isw ica isi iab iun isg ifa ihe ist) ++ ((WC Γ Aj jsw jca jsi jab jun jsg jfa jhe jst) ++ ((WT Γ At tby tnu tln tat tsr ttk tnm tit tft) ++ ((WB Γ Ab blo bwh bow bom) ++ ((WQ Γ Aq qhe qbi qhv qwo qts qbb qbc qbw) ++ (WF Γ Af fab fbe)))))))))) (by subst e_xng_3; rfl) dX11_goods_20 (fun H locs Y => ?_)
  refine lv_aload_n hx hb dX11_goods_21 rfl (lv_at hl 0 rfl) ?_
  refine gfX11_58 X Y (v := .ref (Ax 3)) 0 rfl rfl dX11_goods_22 ?_
  refine lv_iconst (v := (3 : Int32)) hx hb dX11_goods_25 (by decide) ?_
  refine lv_iload hx hb dX11_goods_26 (lv_at hl 4 rfl) ?_
  obtain ⟨xng_4, e_xng_4⟩ : ∃ z : Nat → Int32, z = (upd xng_3 3 x4) := ⟨_, rfl⟩
  have hf := bnd_eq hf e_xng_4
  refine x_iast X Y 3 rfl (j := 3) rfl rfl (ws' := ((WX Γ Ax Ac Ad Ai Aj At Ab Aq Af xik xns xng_4 xnn xbc xnc xfc) ++ ((WC Γ Ac csw cca csi cab cun csg cfa che cst) ++ ((WC Γ Ad dsw dca dsi dab dun dsg dfa dhe dst) ++ ((WC Γ Ai isw ica isi iab iun isg ifa ihe ist) ++ ((WC Γ Aj jsw jca jsi jab jun jsg jfa jhe jst) ++ ((WT Γ At tby tnu tln tat tsr ttk tnm tit tft) ++ ((WB Γ Ab blo bwh bow bom) ++ ((WQ Γ Aq qhe qbi qhv qwo qts qbb qbc qbw) ++ (WF Γ Af fab fbe)))))))))) (by subst e_xng_4; rfl) dX11_goods_28 (fun H locs Y => ?_)
  refine lv_aload_n hx hb dX11_goods_29 rfl (lv_at hl 0 rfl) ?_
  refine gfX11_58 X Y (v := .ref (Ax 3)) 0 rfl rfl dX11_goods_30 ?_
  refine lv_iconst (v := (4 : Int32)) hx hb dX11_goods_33 (by decide) ?_
  refine lv_iload hx hb dX11_goods_34 (lv_at hl 5 rfl) ?_
  obtain ⟨xng_5, e_xng_5⟩ : ∃ z : Nat → Int32, z = (upd xng_4 4 x5) := ⟨_, rfl⟩
  have hf := bnd_eq hf e_xng_5
  refine x_iast X Y 3 rfl (j := 4) rfl rfl (ws' := ((WX Γ Ax Ac Ad Ai Aj At Ab Aq Af xik xns xng_5 xnn xbc xnc xfc) ++ ((WC Γ Ac csw cca csi cab cun csg cfa che cst) ++ ((WC Γ Ad dsw dca dsi dab dun dsg dfa dhe dst) ++ ((WC Γ Ai isw ica isi iab iun isg ifa ihe ist) ++ ((WC Γ Aj jsw jca jsi jab jun jsg jfa jhe jst) ++ ((WT Γ At tby tnu tln tat tsr ttk tnm tit tft) ++ ((WB Γ Ab blo bwh bow bom) ++ ((WQ Γ Aq qhe qbi qhv qwo qts qbb qbc qbw) ++ (WF Γ Af fab fbe)))))))))) (by subst e_xng_5; rfl) dX11_goods_36 (fun H locs Y => ?_)
  refine lv_aload_n hx hb dX11_goods_37 rfl (lv_at hl 0 rfl) ?_
  refine gfX11_58 X Y (v := .ref (Ax 3)) 0 rfl rfl dX11_goods_38 ?_
  refine lv_iconst (v := (5 : Int32)) hx hb dX11_goods_41 (by decide) ?_
  refine lv_iload hx hb dX11_goods_42 (lv_at hl 6 rfl) ?_
  obtain ⟨xng_6, e_xng_6⟩ : ∃ z : Nat → Int32, z = (upd xng_5 5 x6) := ⟨_, rfl⟩
  have hf := bnd_eq hf e_xng_6
  refine x_iast X Y 3 rfl (j := 5) rfl rfl (ws' := ((WX Γ Ax Ac Ad Ai Aj At Ab Aq Af xik xns xng_6 xnn xbc xnc xfc) ++ ((WC Γ Ac csw cca csi cab cun csg cfa che cst) ++ ((WC Γ Ad dsw dca dsi dab dun dsg dfa dhe dst) ++ ((WC Γ Ai isw ica isi iab iun isg ifa ihe ist) ++ ((WC Γ Aj jsw jca jsi jab jun jsg jfa jhe jst) ++ ((WT Γ At tby tnu tln tat tsr ttk tnm tit tft) ++ ((WB Γ Ab blo bwh bow bom) ++ ((WQ Γ Aq qhe qbi qhv qwo qts qbb qbc qbw) ++ (WF Γ Af fab fbe)))))))))) (by subst e_xng_6; rfl) dX11_goods_44 (fun H locs Y => ?_)
  refine lv_aload_n hx hb dX11_goods_45 rfl (lv_at hl 0 rfl) ?_
  refine gfX11_58 X Y (v := .ref (Ax 3)) 0 rfl rfl dX11_goods_46 ?_
  refine x_gets X Y 2 (q := ("GOODS_LEAST", [0, 0, 0, 1, 0, 0])) rfl kw517 dX11_goods_49 ?_
  refine x_gets X Y 3 (q := ("GOODS_MOST", [5, 3, 2, 40, 60, 60])) rfl kw516 dX11_goods_52 ?_
  obtain ⟨r_7, ho_26, hf⟩ := bd1_some hf
  refine t_i Y (bkE Y [3] rfl) (r_S (As := [.ref (Ax 3), .ref (Γ.2.2 2), .ref (Γ.2.2 3)]) (rest := []) X (c_pre X Y [3] rfl rfl) (cX_allWithin6 (Ar := fun _ => Ax 3) ho_26) (cwX11_67_X_allWithin6 X (by decide)) rfl hl.1 (Nat.le_of_ble_eq_true rfl) rfl dX11_goods_55 ⟨Nat.zero_le _, Nat.zero_le _⟩) (fun H locs Y => ?_)
  refine lv_if_ne (tgt := 68) hx hb dX11_goods_58 (by decide) (fun c_8 => ?_) (fun c_8 => ?_)
  · have hf := ite_f hf c_8
    refine lv_aload_n hx hb dX11_goods_68 rfl (lv_at hl 0 rfl) ?_
    refine gfX11_10 X Y (v := .ref (Ac 0)) 0 rfl rfl dX11_goods_69 ?_
    refine lv_aload_n hx hb dX11_goods_72 rfl (lv_at hl 0 rfl) ?_
    refine gfX11_58 X Y (v := .ref (Ax 3)) 0 rfl rfl dX11_goods_73 ?_
    obtain ⟨r_9, csi_10, cab_11, cun_12, cfa_13, ho_20, hf⟩ := bd5_some hf
    refine t_i Y (bk Y [5, 6, 7, 8, 3] [0, 1, 2, 4, 9, 10, 11, 12, 13, 14, 15, 16, 17, 18, 19, 20, 21, 22, 23, 24, 25, 26, 27, 28, 29, 30, 31, 32, 33, 34, 35, 36, 37] [0, 1, 2, 37, 3, 33, 34, 35, 36, 4, 5, 6, 7, 8, 9, 10, 11, 12, 13, 14, 15, 16, 17, 18, 19, 20, 21, 22, 23, 24, 25, 26, 27, 28, 29, 30, 31, 32] (wr := [(Ax 0, .inr (11, [.ref (Ac 0), .ref (Ad 0), .ref (Ax 1), .int xik, .ref (At 0), .ref (Ab 0), .ref (Aq 0), .ref (Af 0), .ref (Ax 2), .ref (Ax 3), .ref (Ax 4), .int xbc, .int xnc, .int xfc])), (Ax 1, .inl (Γ.2.1 4, 2, .inr (.inr (.inr (.inr (fun j => some (if j = 0 then Ai 0 else Aj 0))))))), (Ax 2, .inl (Γ.2.1 0, 2, .inl xns)), (Ax 4, .inl (Γ.2.1 0, 3, .inl xnn)), (Ad 0, .inr (1, [.int dsw, .int dca, .int dsi, .int dab, .int dun, .int dsg, .ref (Ad 1), .ref (Ad 2), .ref (Ad 3)])), (Ad 1, .inl (Γ.2.1 0, 48, .inl dfa)), (Ad 2, .inl (Γ.2.1 0, 8, .inl dhe)), (Ad 3, .inl (Γ.2.1 0, 18, .inl dst)), (Ai 0, .inr (1, [.int isw, .int ica, .int isi, .int iab, .int iun, .int isg, .ref (Ai 1), .ref (Ai 2), .ref (Ai 3)])), (Ai 1, .inl (Γ.2.1 0, 48, .inl ifa)), (Ai 2, .inl (Γ.2.1 0, 8, .inl ihe)), (Ai 3, .inl (Γ.2.1 0, 18, .inl ist)), (Aj 0, .inr (1, [.int jsw, .int jca, .int jsi, .int jab, .int jun, .int jsg, .ref (Aj 1), .ref (Aj 2), .ref (Aj 3)])), (Aj 1, .inl (Γ.2.1 0, 48, .inl jfa)), (Aj 2, .inl (Γ.2.1 0, 8, .inl jhe)), (Aj 3, .inl (Γ.2.1 0, 18, .inl jst)), (At 0, .inr (10, [.ref (At 1), .ref (At 2), .int tln, .int tat, .int tsr, .int ttk, .int tnm, .int tit, .int tft])), (At 1, .inl (Γ.2.1 1, 150, .inl tby)), (At 2, .inl (Γ.2.1 0, 6, .inl tnu)), (Ab 0, .inr (0, [.ref (Ab 1), .int blo, .int bwh, .int bow, .int bom])), (Ab 1, .inl (Γ.2.1 3, 6, .inr (.inr (.inr (.inr (fun j => some (Ab (2 + j)))))))), (Ab 2, .inr (8, [])), (Ab 3, .inr (2, [])), (Ab 4, .inr (5, [])), (Ab 5, .inr (9, [])), (Ab 6, .inr (7, [])), (Ab 7, .inr (4, [])), (Aq 0, .inr (6, [.ref (Aq 1), .ref (Aq 2), .ref (Aq 3), .ref (Aq 4), .int qts, .int qbb, .int qbc, .int qbw])), (Aq 1, .inl (Γ.2.1 0, 3, .inl qhe)), (Aq 2, .inl (Γ.2.1 0, 27, .inl qbi)), (Aq 3, .inl (Γ.2.1 0, 27, .inl qhv)), (Aq 4, .inl (Γ.2.1 0, 27, .inl qwo)), (Af 0, .inr (3, [.long fab, .long fbe]))]) (ws' := ((WX Γ Ax Ac Ad Ai Aj At Ab Aq Af xik xns xng_6 xnn xbc xnc xfc) ++ ((WC Γ Ac csw cca csi_10 cab_11 cun_12 csg cfa_13 che cst) ++ ((WC Γ Ad dsw dca dsi dab dun dsg dfa dhe dst) ++ ((WC Γ Ai isw ica isi iab iun isg ifa ihe ist) ++ ((WC Γ Aj jsw jca jsi jab jun jsg jfa jhe jst) ++ ((WT Γ At tby tnu tln tat tsr ttk tnm tit tft) ++ ((WB Γ Ab blo bwh bow bom) ++ ((WQ Γ Aq qhe qbi qhv qwo qts qbb qbc qbw) ++ (WF Γ Af fab fbe)))))))))) rfl rfl rfl (by decide) rfl rfl) (r_V (As := [.ref (Ax 3)]) (rest := []) X (c_pre X Y [5, 6, 7, 8, 3] rfl rfl) (cC_load (Ar := fun _ => Ax 3) ho_20) (cwX11_89 X (by decide)) (va_recv X.K Y.1 (q := (RX1, TX1, 9)) (q0 := 5) (ci := 1) rfl rfl) rfl hl.1 (Nat.le_of_ble_eq_true rfl) rfl dX11_goods_76 ⟨Nat.zero_le _, Nat.zero_le _⟩) (fun H locs Y => ?_)
    refine lv_istore (lv' := [(7, .int r_9), (0, .ref (Ax 0)), (1, .int x1), (2, .int x2), (3, .int x3), (4, .int x4), (5, .int x5), (6, .int x6)]) hx hb dX11_goods_79 hl (by decide) rfl (fun ls hl => ?_)
    refine lv_iload hx hb dX11_goods_81 (lv_at hl 0 rfl) ?_
    refine lv_iconst (v := (-1 : Int32)) hx hb dX11_goods_83 (by decide) ?_
    refine lv_icmp_ne (tgt := 96) hx hb dX11_goods_84 (by decide) (fun c_14 => ?_) (fun c_14 => ?_)
    · have hf := ite_f hf c_14
      refine lv_iload hx hb dX11_goods_96 (lv_at hl 0 rfl) ?_
      obtain ⟨e90, e91, e92, e93, e94, e95, e96, e97, e98⟩ := sj9 hf
      subst e90
      subst e91
      subst e92
      subst e93
      subst e94
      subst e95
      subst e96
      subst e97
      subst e98
      exact x_iret X Y dX11_goods_98
    · have hf := ite_t hf c_14
      refine lv_aload_n hx hb dX11_goods_87 rfl (lv_at hl 1 rfl) ?_
      refine lv_bipush (v := (-4 : Int32)) hx hb dX11_goods_88 (by decide) ?_
      obtain ⟨r_15, xbc_16, xnc_17, xfc_18, ho_19, hf⟩ := bd4_some hf
      refine t_i Y (bkS Y) (r_V (As := [.int (-4 : Int32)]) (rest := []) X (c_preS X Y) (cX_refuse ho_19) (cwX11_71 X (by decide)) (va_recv X.K Y.1 (q := (RX11, TX11, 14)) (q0 := 0) (ci := 11) rfl rfl) rfl hl.1 (Nat.le_of_ble_eq_true rfl) rfl dX11_goods_90 ⟨Nat.zero_le _, Nat.zero_le _⟩) (fun H locs Y => ?_)
      refine lv_goto (tgt := 98) hx hb dX11_goods_93 (by decide) ?_
      obtain ⟨e90, e91, e92, e93, e94, e95, e96, e97, e98⟩ := sj9 hf
      subst e90
      subst e91
      subst e92
      subst e93
      subst e94
      subst e95
      subst e96
      subst e97
      subst e98
      exact x_iret X Y dX11_goods_98
  · have hf := ite_t hf c_8
    refine lv_aload_n hx hb dX11_goods_61 rfl (lv_at hl 0 rfl) ?_
    refine lv_bipush (v := (-2 : Int32)) hx hb dX11_goods_62 (by decide) ?_
    obtain ⟨r_21, xbc_22, xnc_23, xfc_24, ho_25, hf⟩ := bd4_some hf
    refine t_i Y (bkS Y) (r_V (As := [.int (-2 : Int32)]) (rest := []) X (c_preS X Y) (cX_refuse ho_25) (cwX11_71 X (by decide)) (va_recv X.K Y.1 (q := (RX11, TX11, 14)) (q0 := 0) (ci := 11) rfl rfl) rfl hl.1 (Nat.le_of_ble_eq_true rfl) rfl dX11_goods_64 ⟨Nat.zero_le _, Nat.zero_le _⟩) (fun H locs Y => ?_)
    obtain ⟨e90, e91, e92, e93, e94, e95, e96, e97, e98⟩ := sj9 hf
    subst e90
    subst e91
    subst e92
    subst e93
    subst e94
    subst e95
    subst e96
    subst e97
    subst e98
    exact x_iret X Y dX11_goods_67
theorem cX_goods {l : Launch} {Γ : Gm} {Ax : Nat → Nat} {Ac : Nat → Nat} {Ad : Nat → Nat} {Ai : Nat → Nat} {Aj : Nat → Nat} {At : Nat → Nat} {Ab : Nat → Nat} {Aq : Nat → Nat} {Af : Nat → Nat} {xik : Int32} {xns : Nat → Int32} {xng : Nat → Int32} {xnn : Nat → Int32} {xbc : Int32} {xnc : Int32} {xfc : Int32} {csw : Int32} {cca : Int32} {csi : Int32} {cab : Int32} {cun : Int32} {csg : Int32} {cfa : Nat → Int32} {che : Nat → Int32} {cst : Nat → Int32} {dsw : Int32} {dca : Int32} {dsi : Int32} {dab : Int32} {dun : Int32} {dsg : Int32} {dfa : Nat → Int32} {dhe : Nat → Int32} {dst : Nat → Int32} {isw : Int32} {ica : Int32} {isi : Int32} {iab : Int32} {iun : Int32} {isg : Int32} {ifa : Nat → Int32} {ihe : Nat → Int32} {ist : Nat → Int32} {jsw : Int32} {jca : Int32} {jsi : Int32} {jab : Int32} {jun : Int32} {jsg : Int32} {jfa : Nat → Int32} {jhe : Nat → Int32} {jst : Nat → Int32} {tby : Nat → Int32} {tnu : Nat → Int32} {tln : Int32} {tat : Int32} {tsr : Int32} {ttk : Int32} {tnm : Int32} {tit : Int32} {tft : Int32} {blo : Int32} {bwh : Int32} {bow : Int32} {bom : Int32} {qhe : Nat → Int32} {qbi : Nat → Int32} {qhv : Nat → Int32} {qwo : Nat → Int32} {qts : Int32} {qbb : Int32} {qbc : Int32} {qbw : Int32} {fab : Int64} {fbe : Int64} {xng_z : Nat → Int32} {xbc_z : Int32} {xnc_z : Int32} {xfc_z : Int32} {csi_z : Int32} {cab_z : Int32} {cun_z : Int32} {cfa_z : Nat → Int32} {r0 : Int32} {x1 : Int32} {x2 : Int32} {x3 : Int32} {x4 : Int32} {x5 : Int32} {x6 : Int32} (h : X_goods x1 x2 x3 x4 x5 x6 xng xbc xnc xfc csi cab cun cfa = some (r0, xng_z, xbc_z, xnc_z, xfc_z, csi_z, cab_z, cun_z, cfa_z)) : CI l Γ yX11_goods (Cond.code yX11_goods cX11_goods 8 (some .int) :: GW) rmX_goods [.ref (Ax 0), .int x1, .int x2, .int x3, .int x4, .int x5, .int x6] ((WX Γ Ax Ac Ad Ai Aj At Ab Aq Af xik xns xng xnn xbc xnc xfc) ++ ((WC Γ Ac csw cca csi cab cun csg cfa che cst) ++ ((WC Γ Ad dsw dca dsi dab dun dsg dfa dhe dst) ++ ((WC Γ Ai isw ica isi iab iun isg ifa ihe ist) ++ ((WC Γ Aj jsw jca jsi jab jun jsg jfa jhe jst) ++ ((WT Γ At tby tnu tln tat tsr ttk tnm tit tft) ++ ((WB Γ Ab blo bwh bow bom) ++ ((WQ Γ Aq qhe qbi qhv qwo qts qbb qbc qbw) ++ (WF Γ Af fab fbe))))))))) ((WX Γ Ax Ac Ad Ai Aj At Ab Aq Af xik xns xng_z xnn xbc_z xnc_z xfc_z) ++ ((WC Γ Ac csw cca csi_z cab_z cun_z csg cfa_z che cst) ++ ((WC Γ Ad dsw dca dsi dab dun dsg dfa dhe dst) ++ ((WC Γ Ai isw ica isi iab iun isg ifa ihe ist) ++ ((WC Γ Aj jsw jca jsi jab jun jsg jfa jhe jst) ++ ((WT Γ At tby tnu tln tat tsr ttk tnm tit tft) ++ ((WB Γ Ab blo bwh bow bom) ++ ((WQ Γ Aq qhe qbi qhv qwo qts qbb qbc qbw) ++ (WF Γ Af fab fbe))))))))) r0 := ofBody (Qc := QcI Γ _ _ r0) (by decide) (Nat.le_of_ble_eq_true rfl) (fun p e s m below meth c ls _ X Y hl => bX_goods_e X h Y hl)
theorem dmX1_retellV : yX1_retell.cls = RX1 ∧ yX1_retell.cls ≠ "java/lang/invoke/MethodHandle" ∧ yX1_retell.cls ≠ "java/lang/invoke/VarHandle" ∧ (parseMethodDescriptor yX1_retell.desc).map (fun d => d.parameters.length) = some 2 := by decide +kernel
theorem cwX11_105 (X : Cx Γ p s m args meth c RX11 cc nL ret w0) (hR : rmC_retell.frames + 1 ≤ R.frames ∧ 8 + (3 + 11) + rmC_retell.locals ≤ R.locals) : CallW R s args RX11 RX1 105 yX1_retell cX1_retell 3 none (Cond.code yX1_retell cX1_retell 3 none :: GW) rmC_retell 0 0 2 := cw_V X kw518 kw519 kw520 kw228 kw521 dmX1_retellV rfl rfl hR
theorem cwX11_101 (X : Cx Γ p s m args meth c RX11 cc nL ret w0) (hR : rmC_fact.frames + 1 ≤ R.frames ∧ 8 + (3 + 11) + rmC_fact.locals ≤ R.locals) : CallW R s args RX11 RX1 101 yX1_fact cX1_fact 3 (some .int) (Cond.code yX1_fact cX1_fact 3 (some .int) :: GW) rmC_fact 0 0 2 := cw_V X kw522 kw245 kw246 kw228 kw247 dmX1_factV rfl rfl hR
theorem cwX11_93 (X : Cx Γ p s m args meth c RX11 cc nL ret w0) (hR : rmC_has.frames + 1 ≤ R.frames ∧ 8 + (2 + 11) + rmC_has.locals ≤ R.locals) : CallW R s args RX11 RX1 93 yX1_has cX1_has 2 (some .boolean) (Cond.code yX1_has cX1_has 2 (some .boolean) :: GW) rmC_has 0 0 1 := cw_V X kw523 kw226 kw227 kw228 kw229 dmX1_hasV rfl rfl hR
def rmX_tells : Room := { frames := 2, cells := 0, slots := 0, locals := 44 }
def X_tells_21 (xbc : Int32) (xnc : Int32) (xfc : Int32) (csi : Int32) (cfa : Nat → Int32) : Option (Int32 × Int32 × Int32 × Int32 × (Nat → Int32)) := bd4 (X_refuse (-2 : Int32) xbc xnc xfc) (fun (r_1 : Int32) (xbc_2 : Int32) (xnc_3 : Int32) (xfc_4 : Int32) => some (r_1, xbc_2, xnc_3, xfc_4, cfa))
set_option maxHeartbeats 4000000 in
set_option maxRecDepth 100000 in
theorem bX_tells_21 {Ax : Nat → Nat} {Ac : Nat → Nat} {Ad : Nat → Nat} {Ai : Nat → Nat} {Aj : Nat → Nat} {At : Nat → Nat} {Ab : Nat → Nat} {Aq : Nat → Nat} {Af : Nat → Nat} {xik : Int32} {xns : Nat → Int32} {xng : Nat → Int32} {xnn : Nat → Int32} {xbc : Int32} {xnc : Int32} {xfc : Int32} {csw : Int32} {cca : Int32} {csi : Int32} {cab : Int32} {cun : Int32} {csg : Int32} {cfa : Nat → Int32} {che : Nat → Int32} {cst : Nat → Int32} {dsw : Int32} {dca : Int32} {dsi : Int32} {dab : Int32} {dun : Int32} {dsg : Int32} {dfa : Nat → Int32} {dhe : Nat → Int32} {dst : Nat → Int32} {isw : Int32} {ica : Int32} {isi : Int32} {iab : Int32} {iun : Int32} {isg : Int32} {ifa : Nat → Int32} {ihe : Nat → Int32} {ist : Nat → Int32} {jsw : Int32} {jca : Int32} {jsi : Int32} {jab : Int32} {jun : Int32} {jsg : Int32} {jfa : Nat → Int32} {jhe : Nat → Int32} {jst : Nat → Int32} {tby : Nat → Int32} {tnu : Nat → Int32} {tln : Int32} {tat : Int32} {tsr : Int32} {ttk : Int32} {tnm : Int32} {tit : Int32} {tft : Int32} {blo : Int32} {bwh : Int32} {bow : Int32} {bom : Int32} {qhe : Nat → Int32} {qbi : Nat → Int32} {qhv : Nat → Int32} {qwo : Nat → Int32} {qts : Int32} {qbb : Int32} {qbc : Int32} {qbw : Int32} {fab : Int64} {fbe : Int64} {xbc_z : Int32} {xnc_z : Int32} {xfc_z : Int32} {cfa_z : Nat → Int32} {r0 : Int32} (X : Cx Γ p s m args meth c RX11 cX11_tells 4 (some .int) w0) (hf : X_tells_21 xbc xnc xfc csi cfa = some (r0, xbc_z, xnc_z, xfc_z, cfa_z)) (Y : Wd Γ w0 s ((WX Γ Ax Ac Ad Ai Aj At Ab Aq Af xik xns xng xnn xbc xnc xfc) ++ ((WC Γ Ac csw cca csi cab cun csg cfa che cst) ++ ((WC Γ Ad dsw dca dsi dab dun dsg dfa dhe dst) ++ ((WC Γ Ai isw ica isi iab iun isg ifa ihe ist) ++ ((WC Γ Aj jsw jca jsi jab jun jsg jfa jhe jst) ++ ((WT Γ At tby tnu tln tat tsr ttk tnm tit tft) ++ ((WB Γ Ab blo bwh bow bom) ++ ((WQ Γ Aq qhe qbi qhv qwo qts qbb qbc qbw) ++ (WF Γ Af fab fbe))))))))) H locs) (hl : lv_has ls 4 [(0, .ref (Ax 0))]) : W p l e rmX_tells s m args below meth c H locs 0 0 (EI Γ below args s w0 ((WX Γ Ax Ac Ad Ai Aj At Ab Aq Af xik xns xng xnn xbc_z xnc_z xfc_z) ++ ((WC Γ Ac csw cca csi cab cun csg cfa_z che cst) ++ ((WC Γ Ad dsw dca dsi dab dun dsg dfa dhe dst) ++ ((WC Γ Ai isw ica isi iab iun isg ifa ihe ist) ++ ((WC Γ Aj jsw jca jsi jab jun jsg jfa jhe jst) ++ ((WT Γ At tby tnu tln tat tsr ttk tnm tit tft) ++ ((WB Γ Ab blo bwh bow bom) ++ ((WQ Γ Aq qhe qbi qhv qwo qts qbb qbc qbw) ++ (WF Γ Af fab fbe))))))))) r0) (F0 m 21 ls []) := by
  have hx := X.1
  have hb := X.2.1
  refine lv_aload_n hx hb dX11_tells_21 rfl (lv_at hl 0 rfl) ?_
  refine lv_bipush (v := (-2 : Int32)) hx hb dX11_tells_22 (by decide) ?_
  obtain ⟨r_1, xbc_2, xnc_3, xfc_4, ho_5, hf⟩ := bd4_some hf
  refine t_i Y (bkS Y) (r_V (As := [.int (-2 : Int32)]) (rest := []) X (c_preS X Y) (cX_refuse ho_5) (cwX11_71 X (by decide)) (va_recv X.K Y.1 (q := (RX11, TX11, 14)) (q0 := 0) (ci := 11) rfl rfl) rfl hl.1 (Nat.le_of_ble_eq_true rfl) rfl dX11_tells_24 ⟨Nat.zero_le _, Nat.zero_le _⟩) (fun H locs Y => ?_)
  obtain ⟨e90, e91, e92, e93, e94⟩ := sj5 hf
  subst e90
  subst e91
  subst e92
  subst e93
  subst e94
  exact x_iret X Y dX11_tells_27
def X_tells (x1 : Int32) (x2 : Int32) (xbc : Int32) (xnc : Int32) (xfc : Int32) (csi : Int32) (cfa : Nat → Int32) : Option (Int32 × Int32 × Int32 × Int32 × (Nat → Int32)) := bd1 (C_has x1 csi) (fun (r_1 : Int32) => if r_1 = 0 then (X_tells_21 xbc xnc xfc csi cfa) else (bd1 (X_within x2 (0 : Int32) (60 : Int32)) (fun (r_3 : Int32) => if r_3 = 0 then (X_tells_21 xbc xnc xfc csi cfa) else (bd1 (C_fact x1 (5 : Int32) csi cfa) (fun (r_5 : Int32) => bd1 (C_retell x1 x2 csi cfa) (fun (cfa_6 : Nat → Int32) => some (r_5, xbc, xnc, xfc, cfa_6)))))))
set_option maxHeartbeats 4000000 in
set_option maxRecDepth 100000 in
theorem bX_tells_e {Ax : Nat → Nat} {Ac : Nat → Nat} {Ad : Nat → Nat} {Ai : Nat → Nat} {Aj : Nat → Nat} {At : Nat → Nat} {Ab : Nat → Nat} {Aq : Nat → Nat} {Af : Nat → Nat} {xik : Int32} {xns : Nat → Int32} {xng : Nat → Int32} {xnn : Nat → Int32} {xbc : Int32} {xnc : Int32} {xfc : Int32} {csw : Int32} {cca : Int32} {csi : Int32} {cab : Int32} {cun : Int32} {csg : Int32} {cfa : Nat → Int32} {che : Nat → Int32} {cst : Nat → Int32} {dsw : Int32} {dca : Int32} {dsi : Int32} {dab : Int32} {dun : Int32} {dsg : Int32} {dfa : Nat → Int32} {dhe : Nat → Int32} {dst : Nat → Int32} {isw : Int32} {ica : Int32} {isi : Int32} {iab : Int32} {iun : Int32} {isg : Int32} {ifa : Nat → Int32} {ihe : Nat → Int32} {ist : Nat → Int32} {jsw : Int32} {jca : Int32} {jsi : Int32} {jab : Int32} {jun : Int32} {jsg : Int32} {jfa : Nat → Int32} {jhe : Nat → Int32} {jst : Nat → Int32} {tby : Nat → Int32} {tnu : Nat → Int32} {tln : Int32} {tat : Int32} {tsr : Int32} {ttk : Int32} {tnm : Int32} {tit : Int32} {tft : Int32} {blo : Int32} {bwh : Int32} {bow : Int32} {bom : Int32} {qhe : Nat → Int32} {qbi : Nat → Int32} {qhv : Nat → Int32} {qwo : Nat → Int32} {qts : Int32} {qbb : Int32} {qbc : Int32} {qbw : Int32} {fab : Int64} {fbe : Int64} {xbc_z : Int32} {xnc_z : Int32} {xfc_z : Int32} {cfa_z : Nat → Int32} {r0 : Int32} {x1 : Int32} {x2 : Int32} (X : Cx Γ p s m args meth c RX11 cX11_tells 4 (some .int) w0) (hf : X_tells x1 x2 xbc xnc xfc csi cfa = some (r0, xbc_z, xnc_z, xfc_z, cfa_z)) (Y : Wd Γ w0 s ((WX Γ Ax Ac Ad Ai Aj At Ab Aq Af xik xns xng xnn xbc xnc xfc) ++ ((WC Γ Ac csw cca csi cab cun csg cfa che cst) ++ ((WC Γ Ad dsw dca dsi dab dun dsg dfa dhe dst) ++ ((WC Γ Ai isw ica isi iab iun isg ifa ihe ist) ++ ((WC Γ Aj jsw jca jsi jab jun jsg jfa jhe jst) ++ ((WT Γ At tby tnu tln tat tsr ttk tnm tit tft) ++ ((WB Γ Ab blo bwh bow bom) ++ ((WQ Γ Aq qhe qbi qhv qwo qts qbb qbc qbw) ++ (WF Γ Af fab fbe))))))))) H locs) (hl : lv_has ls 4 [(0, .ref (Ax 0)), (1, .int x1), (2, .int x2)]) : W p l e rmX_tells s m args below meth c H locs 0 0 (EI Γ below args s w0 ((WX Γ Ax Ac Ad Ai Aj At Ab Aq Af xik xns xng xnn xbc_z xnc_z xfc_z) ++ ((WC Γ Ac csw cca csi cab cun csg cfa_z che cst) ++ ((WC Γ Ad dsw dca dsi dab dun dsg dfa dhe dst) ++ ((WC Γ Ai isw ica isi iab iun isg ifa ihe ist) ++ ((WC Γ Aj jsw jca jsi jab jun jsg jfa jhe jst) ++ ((WT Γ At tby tnu tln tat tsr ttk tnm tit tft) ++ ((WB Γ Ab blo bwh bow bom) ++ ((WQ Γ Aq qhe qbi qhv qwo qts qbb qbc qbw) ++ (WF Γ Af fab fbe))))))))) r0) (F0 m 0 ls []) := by
  have hx := X.1
  have hb := X.2.1
  refine lv_aload_n hx hb dX11_tells_0 rfl (lv_at hl 0 rfl) ?_
  refine gfX11_10 X Y (v := .ref (Ac 0)) 0 rfl rfl dX11_tells_1 ?_
  refine lv_iload_n hx hb dX11_tells_4 rfl (lv_at hl 1 rfl) ?_
  obtain ⟨r_1, ho_10, hf⟩ := bd1_some hf
  refine t_i Y (bkE Y [5, 6, 7, 8] rfl) (r_V (As := [.int x1]) (rest := []) X (c_pre X Y [5, 6, 7, 8] rfl rfl) (cC_has ho_10) (cwX11_93 X (by decide)) (va_recv X.K Y.1 (q := (RX1, TX1, 9)) (q0 := 5) (ci := 1) rfl rfl) rfl hl.1 (Nat.le_of_ble_eq_true rfl) rfl dX11_tells_5 ⟨Nat.zero_le _, Nat.zero_le _⟩) (fun H locs Y => ?_)
  refine lv_if_eq (tgt := 21) hx hb dX11_tells_8 (by decide) (fun c_2 => ?_) (fun c_2 => ?_)
  · have hf := ite_t hf c_2
    exact bX_tells_21 X hf Y (lv_sub hl [0] rfl)
  · have hf := ite_f hf c_2
    refine lv_iload_n hx hb dX11_tells_11 rfl (lv_at hl 2 rfl) ?_
    refine lv_iconst (v := (0 : Int32)) hx hb dX11_tells_12 (by decide) ?_
    refine lv_bipush (v := (60 : Int32)) hx hb dX11_tells_13 (by decide) ?_
    obtain ⟨r_3, ho_9, hf⟩ := bd1_some hf
    refine t_i Y (bk0 Y) (r_S (As := [.int x2, .int (0 : Int32), .int (60 : Int32)]) (rest := []) X (c_pre0 X Y) (cX_within ho_9) (cwX11_97 X (by decide)) rfl hl.1 (Nat.le_of_ble_eq_true rfl) rfl dX11_tells_15 ⟨Nat.zero_le _, Nat.zero_le _⟩) (fun H locs Y => ?_)
    refine lv_if_ne (tgt := 28) hx hb dX11_tells_18 (by decide) (fun c_4 => ?_) (fun c_4 => ?_)
    · have hf := ite_f hf c_4
      refine lv_aload_n hx hb dX11_tells_28 rfl (lv_at hl 0 rfl) ?_
      refine gfX11_10 X Y (v := .ref (Ac 0)) 0 rfl rfl dX11_tells_29 ?_
      refine lv_iload_n hx hb dX11_tells_32 rfl (lv_at hl 1 rfl) ?_
      refine lv_iconst (v := (5 : Int32)) hx hb dX11_tells_33 (by decide) ?_
      obtain ⟨r_5, ho_8, hf⟩ := bd1_some hf
      refine t_i Y (bkE Y [5, 6, 7, 8] rfl) (r_V (As := [.int x1, .int (5 : Int32)]) (rest := []) X (c_pre X Y [5, 6, 7, 8] rfl rfl) (cC_fact ho_8) (cwX11_101 X (by decide)) (va_recv X.K Y.1 (q := (RX1, TX1, 9)) (q0 := 5) (ci := 1) rfl rfl) rfl hl.1 (Nat.le_of_ble_eq_true rfl) rfl dX11_tells_34 ⟨Nat.zero_le _, Nat.zero_le _⟩) (fun H locs Y => ?_)
      refine lv_istore_n (lv' := [(3, .int r_5), (0, .ref (Ax 0)), (1, .int x1), (2, .int x2)]) hx hb dX11_tells_37 rfl hl (by decide) rfl (fun ls hl => ?_)
      refine lv_aload_n hx hb dX11_tells_38 rfl (lv_at hl 1 rfl) ?_
      refine gfX11_10 X Y (v := .ref (Ac 0)) 0 rfl rfl dX11_tells_39 ?_
      refine lv_iload_n hx hb dX11_tells_42 rfl (lv_at hl 2 rfl) ?_
      refine lv_iload_n hx hb dX11_tells_43 rfl (lv_at hl 3 rfl) ?_
      obtain ⟨cfa_6, ho_7, hf⟩ := bd1_some hf
      refine t_v Y (bk Y [5, 6, 7, 8] [0, 1, 2, 3, 4, 9, 10, 11, 12, 13, 14, 15, 16, 17, 18, 19, 20, 21, 22, 23, 24, 25, 26, 27, 28, 29, 30, 31, 32, 33, 34, 35, 36, 37] [0, 1, 2, 3, 4, 34, 35, 36, 37, 5, 6, 7, 8, 9, 10, 11, 12, 13, 14, 15, 16, 17, 18, 19, 20, 21, 22, 23, 24, 25, 26, 27, 28, 29, 30, 31, 32, 33] (wr := [(Ax 0, .inr (11, [.ref (Ac 0), .ref (Ad 0), .ref (Ax 1), .int xik, .ref (At 0), .ref (Ab 0), .ref (Aq 0), .ref (Af 0), .ref (Ax 2), .ref (Ax 3), .ref (Ax 4), .int xbc, .int xnc, .int xfc])), (Ax 1, .inl (Γ.2.1 4, 2, .inr (.inr (.inr (.inr (fun j => some (if j = 0 then Ai 0 else Aj 0))))))), (Ax 2, .inl (Γ.2.1 0, 2, .inl xns)), (Ax 3, .inl (Γ.2.1 0, 6, .inl xng)), (Ax 4, .inl (Γ.2.1 0, 3, .inl xnn)), (Ad 0, .inr (1, [.int dsw, .int dca, .int dsi, .int dab, .int dun, .int dsg, .ref (Ad 1), .ref (Ad 2), .ref (Ad 3)])), (Ad 1, .inl (Γ.2.1 0, 48, .inl dfa)), (Ad 2, .inl (Γ.2.1 0, 8, .inl dhe)), (Ad 3, .inl (Γ.2.1 0, 18, .inl dst)), (Ai 0, .inr (1, [.int isw, .int ica, .int isi, .int iab, .int iun, .int isg, .ref (Ai 1), .ref (Ai 2), .ref (Ai 3)])), (Ai 1, .inl (Γ.2.1 0, 48, .inl ifa)), (Ai 2, .inl (Γ.2.1 0, 8, .inl ihe)), (Ai 3, .inl (Γ.2.1 0, 18, .inl ist)), (Aj 0, .inr (1, [.int jsw, .int jca, .int jsi, .int jab, .int jun, .int jsg, .ref (Aj 1), .ref (Aj 2), .ref (Aj 3)])), (Aj 1, .inl (Γ.2.1 0, 48, .inl jfa)), (Aj 2, .inl (Γ.2.1 0, 8, .inl jhe)), (Aj 3, .inl (Γ.2.1 0, 18, .inl jst)), (At 0, .inr (10, [.ref (At 1), .ref (At 2), .int tln, .int tat, .int tsr, .int ttk, .int tnm, .int tit, .int tft])), (At 1, .inl (Γ.2.1 1, 150, .inl tby)), (At 2, .inl (Γ.2.1 0, 6, .inl tnu)), (Ab 0, .inr (0, [.ref (Ab 1), .int blo, .int bwh, .int bow, .int bom])), (Ab 1, .inl (Γ.2.1 3, 6, .inr (.inr (.inr (.inr (fun j => some (Ab (2 + j)))))))), (Ab 2, .inr (8, [])), (Ab 3, .inr (2, [])), (Ab 4, .inr (5, [])), (Ab 5, .inr (9, [])), (Ab 6, .inr (7, [])), (Ab 7, .inr (4, [])), (Aq 0, .inr (6, [.ref (Aq 1), .ref (Aq 2), .ref (Aq 3), .ref (Aq 4), .int qts, .int qbb, .int qbc, .int qbw])), (Aq 1, .inl (Γ.2.1 0, 3, .inl qhe)), (Aq 2, .inl (Γ.2.1 0, 27, .inl qbi)), (Aq 3, .inl (Γ.2.1 0, 27, .inl qhv)), (Aq 4, .inl (Γ.2.1 0, 27, .inl qwo)), (Af 0, .inr (3, [.long fab, .long fbe]))]) (ws' := ((WX Γ Ax Ac Ad Ai Aj At Ab Aq Af xik xns xng xnn xbc xnc xfc) ++ ((WC Γ Ac csw cca csi cab cun csg cfa_6 che cst) ++ ((WC Γ Ad dsw dca dsi dab dun dsg dfa dhe dst) ++ ((WC Γ Ai isw ica isi iab iun isg ifa ihe ist) ++ ((WC Γ Aj jsw jca jsi jab jun jsg jfa jhe jst) ++ ((WT Γ At tby tnu tln tat tsr ttk tnm tit tft) ++ ((WB Γ Ab blo bwh bow bom) ++ ((WQ Γ Aq qhe qbi qhv qwo qts qbb qbc qbw) ++ (WF Γ Af fab fbe)))))))))) rfl rfl rfl (by decide) rfl rfl) (r_V (As := [.int x1, .int x2]) (rest := []) X (c_pre X Y [5, 6, 7, 8] rfl rfl) (cC_retell ho_7) (cwX11_105 X (by decide)) (va_recv X.K Y.1 (q := (RX1, TX1, 9)) (q0 := 5) (ci := 1) rfl rfl) rfl hl.1 (Nat.le_of_ble_eq_true rfl) rfl dX11_tells_44 ⟨Nat.zero_le _, Nat.zero_le _⟩) (fun H locs Y => ?_)
      refine lv_iload_n hx hb dX11_tells_47 rfl (lv_at hl 0 rfl) ?_
      obtain ⟨e90, e91, e92, e93, e94⟩ := sj5 hf
      subst e90
      subst e91
      subst e92
      subst e93
      subst e94
      exact x_iret X Y dX11_tells_48
    · have hf := ite_t hf c_4
      exact bX_tells_21 X hf Y (lv_sub hl [0] rfl)
theorem cX_tells {l : Launch} {Γ : Gm} {Ax : Nat → Nat} {Ac : Nat → Nat} {Ad : Nat → Nat} {Ai : Nat → Nat} {Aj : Nat → Nat} {At : Nat → Nat} {Ab : Nat → Nat} {Aq : Nat → Nat} {Af : Nat → Nat} {xik : Int32} {xns : Nat → Int32} {xng : Nat → Int32} {xnn : Nat → Int32} {xbc : Int32} {xnc : Int32} {xfc : Int32} {csw : Int32} {cca : Int32} {csi : Int32} {cab : Int32} {cun : Int32} {csg : Int32} {cfa : Nat → Int32} {che : Nat → Int32} {cst : Nat → Int32} {dsw : Int32} {dca : Int32} {dsi : Int32} {dab : Int32} {dun : Int32} {dsg : Int32} {dfa : Nat → Int32} {dhe : Nat → Int32} {dst : Nat → Int32} {isw : Int32} {ica : Int32} {isi : Int32} {iab : Int32} {iun : Int32} {isg : Int32} {ifa : Nat → Int32} {ihe : Nat → Int32} {ist : Nat → Int32} {jsw : Int32} {jca : Int32} {jsi : Int32} {jab : Int32} {jun : Int32} {jsg : Int32} {jfa : Nat → Int32} {jhe : Nat → Int32} {jst : Nat → Int32} {tby : Nat → Int32} {tnu : Nat → Int32} {tln : Int32} {tat : Int32} {tsr : Int32} {ttk : Int32} {tnm : Int32} {tit : Int32} {tft : Int32} {blo : Int32} {bwh : Int32} {bow : Int32} {bom : Int32} {qhe : Nat → Int32} {qbi : Nat → Int32} {qhv : Nat → Int32} {qwo : Nat → Int32} {qts : Int32} {qbb : Int32} {qbc : Int32} {qbw : Int32} {fab : Int64} {fbe : Int64} {xbc_z : Int32} {xnc_z : Int32} {xfc_z : Int32} {cfa_z : Nat → Int32} {r0 : Int32} {x1 : Int32} {x2 : Int32} (h : X_tells x1 x2 xbc xnc xfc csi cfa = some (r0, xbc_z, xnc_z, xfc_z, cfa_z)) : CI l Γ yX11_tells (Cond.code yX11_tells cX11_tells 4 (some .int) :: GW) rmX_tells [.ref (Ax 0), .int x1, .int x2] ((WX Γ Ax Ac Ad Ai Aj At Ab Aq Af xik xns xng xnn xbc xnc xfc) ++ ((WC Γ Ac csw cca csi cab cun csg cfa che cst) ++ ((WC Γ Ad dsw dca dsi dab dun dsg dfa dhe dst) ++ ((WC Γ Ai isw ica isi iab iun isg ifa ihe ist) ++ ((WC Γ Aj jsw jca jsi jab jun jsg jfa jhe jst) ++ ((WT Γ At tby tnu tln tat tsr ttk tnm tit tft) ++ ((WB Γ Ab blo bwh bow bom) ++ ((WQ Γ Aq qhe qbi qhv qwo qts qbb qbc qbw) ++ (WF Γ Af fab fbe))))))))) ((WX Γ Ax Ac Ad Ai Aj At Ab Aq Af xik xns xng xnn xbc_z xnc_z xfc_z) ++ ((WC Γ Ac csw cca csi cab cun csg cfa_z che cst) ++ ((WC Γ Ad dsw dca dsi dab dun dsg dfa dhe dst) ++ ((WC Γ Ai isw ica isi iab iun isg ifa ihe ist) ++ ((WC Γ Aj jsw jca jsi jab jun jsg jfa jhe jst) ++ ((WT Γ At tby tnu tln tat tsr ttk tnm tit tft) ++ ((WB Γ Ab blo bwh bow bom) ++ ((WQ Γ Aq qhe qbi qhv qwo qts qbb qbc qbw) ++ (WF Γ Af fab fbe))))))))) r0 := ofBody (Qc := QcI Γ _ _ r0) (by decide) (Nat.le_of_ble_eq_true rfl) (fun p e s m below meth c ls _ X Y hl => bX_tells_e X h Y hl)
theorem dmX10_appendV : yX10_append.cls = RX10 ∧ yX10_append.cls ≠ "java/lang/invoke/MethodHandle" ∧ yX10_append.cls ≠ "java/lang/invoke/VarHandle" ∧ (parseMethodDescriptor yX10_append.desc).map (fun d => d.parameters.length) = some 1 := by decide +kernel
theorem cwX11_108 (X : Cx Γ p s m args meth c RX11 cc nL ret w0) (hR : rmT_append.frames + 1 ≤ R.frames ∧ 8 + (2 + 11) + rmT_append.locals ≤ R.locals) : CallW R s args RX11 RX10 108 yX10_append cX10_append 2 (some .boolean) (Cond.code yX10_append cX10_append 2 (some .boolean) :: GW) rmT_append 0 0 1 := cw_V X kw524 kw525 kw526 kw415 kw527 dmX10_appendV rfl rfl hR
def rmX_type : Room := { frames := 2, cells := 0, slots := 0, locals := 43 }
def X_type (x1 : Int32) (xbc : Int32) (xnc : Int32) (xfc : Int32) (tby : Nat → Int32) (tln : Int32) : Option (Int32 × Int32 × Int32 × Int32 × (Nat → Int32) × Int32) := bd1 (X_within x1 (0 : Int32) (127 : Int32)) (fun (r_1 : Int32) => if r_1 = 0 then (bd4 (X_refuse (-2 : Int32) xbc xnc xfc) (fun (r_13 : Int32) (xbc_14 : Int32) (xnc_15 : Int32) (xfc_16 : Int32) => some (r_13, xbc_14, xnc_15, xfc_16, tby, tln))) else (bd3 (T_append x1 tby tln) (fun (r_3 : Int32) (tby_4 : Nat → Int32) (tln_5 : Int32) => if r_3 = 0 then (bd4 (X_refuse (-4 : Int32) xbc xnc xfc) (fun (r_7 : Int32) (xbc_8 : Int32) (xnc_9 : Int32) (xfc_10 : Int32) => some (r_7, xbc_8, xnc_9, xfc_10, tby_4, tln_5))) else (some (tln_5, xbc, xnc, xfc, tby_4, tln_5)))))
set_option maxHeartbeats 4000000 in
set_option maxRecDepth 100000 in
theorem bX_type_e {Ax : Nat → Nat} {Ac : Nat → Nat} {Ad : Nat → Nat} {Ai : Nat → Nat} {Aj : Nat → Nat} {At : Nat → Nat} {Ab : Nat → Nat} {Aq : Nat → Nat} {Af : Nat → Nat} {xik : Int32} {xns : Nat → Int32} {xng : Nat → Int32} {xnn : Nat → Int32} {xbc : Int32} {xnc : Int32} {xfc : Int32} {csw : Int32} {cca : Int32} {csi : Int32} {cab : Int32} {cun : Int32} {csg : Int32} {cfa : Nat → Int32} {che : Nat → Int32} {cst : Nat → Int32} {dsw : Int32} {dca : Int32} {dsi : Int32} {dab : Int32} {dun : Int32} {dsg : Int32} {dfa : Nat → Int32} {dhe : Nat → Int32} {dst : Nat → Int32} {isw : Int32} {ica : Int32} {isi : Int32} {iab : Int32} {iun : Int32} {isg : Int32} {ifa : Nat → Int32} {ihe : Nat → Int32} {ist : Nat → Int32} {jsw : Int32} {jca : Int32} {jsi : Int32} {jab : Int32} {jun : Int32} {jsg : Int32} {jfa : Nat → Int32} {jhe : Nat → Int32} {jst : Nat → Int32} {tby : Nat → Int32} {tnu : Nat → Int32} {tln : Int32} {tat : Int32} {tsr : Int32} {ttk : Int32} {tnm : Int32} {tit : Int32} {tft : Int32} {blo : Int32} {bwh : Int32} {bow : Int32} {bom : Int32} {qhe : Nat → Int32} {qbi : Nat → Int32} {qhv : Nat → Int32} {qwo : Nat → Int32} {qts : Int32} {qbb : Int32} {qbc : Int32} {qbw : Int32} {fab : Int64} {fbe : Int64} {xbc_z : Int32} {xnc_z : Int32} {xfc_z : Int32} {tby_z : Nat → Int32} {tln_z : Int32} {r0 : Int32} {x1 : Int32} (X : Cx Γ p s m args meth c RX11 cX11_type 2 (some .int) w0) (hf : X_type x1 xbc xnc xfc tby tln = some (r0, xbc_z, xnc_z, xfc_z, tby_z, tln_z)) (Y : Wd Γ w0 s ((WX Γ Ax Ac Ad Ai Aj At Ab Aq Af xik xns xng xnn xbc xnc xfc) ++ ((WC Γ Ac csw cca csi cab cun csg cfa che cst) ++ ((WC Γ Ad dsw dca dsi dab dun dsg dfa dhe dst) ++ ((WC Γ Ai isw ica isi iab iun isg ifa ihe ist) ++ ((WC Γ Aj jsw jca jsi jab jun jsg jfa jhe jst) ++ ((WT Γ At tby tnu tln tat tsr ttk tnm tit tft) ++ ((WB Γ Ab blo bwh bow bom) ++ ((WQ Γ Aq qhe qbi qhv qwo qts qbb qbc qbw) ++ (WF Γ Af fab fbe))))))))) H locs) (hl : lv_has ls 2 [(0, .ref (Ax 0)), (1, .int x1)]) : W p l e rmX_type s m args below meth c H locs 0 0 (EI Γ below args s w0 ((WX Γ Ax Ac Ad Ai Aj At Ab Aq Af xik xns xng xnn xbc_z xnc_z xfc_z) ++ ((WC Γ Ac csw cca csi cab cun csg cfa che cst) ++ ((WC Γ Ad dsw dca dsi dab dun dsg dfa dhe dst) ++ ((WC Γ Ai isw ica isi iab iun isg ifa ihe ist) ++ ((WC Γ Aj jsw jca jsi jab jun jsg jfa jhe jst) ++ ((WT Γ At tby_z tnu tln_z tat tsr ttk tnm tit tft) ++ ((WB Γ Ab blo bwh bow bom) ++ ((WQ Γ Aq qhe qbi qhv qwo qts qbb qbc qbw) ++ (WF Γ Af fab fbe))))))))) r0) (F0 m 0 ls []) := by
  have hx := X.1
  have hb := X.2.1
  refine lv_iload_n hx hb dX11_type_0 rfl (lv_at hl 1 rfl) ?_
  refine lv_iconst (v := (0 : Int32)) hx hb dX11_type_1 (by decide) ?_
  refine lv_bipush (v := (127 : Int32)) hx hb dX11_type_2 (by decide) ?_
  obtain ⟨r_1, ho_18, hf⟩ := bd1_some hf
  refine t_i Y (bk0 Y) (r_S (As := [.int x1, .int (0 : Int32), .int (127 : Int32)]) (rest := []) X (c_pre0 X Y) (cX_within ho_18) (cwX11_97 X (by decide)) rfl hl.1 (Nat.le_of_ble_eq_true rfl) rfl dX11_type_4 ⟨Nat.zero_le _, Nat.zero_le _⟩) (fun H locs Y => ?_)
  refine lv_if_ne (tgt := 17) hx hb dX11_type_7 (by decide) (fun c_2 => ?_) (fun c_2 => ?_)
  · have hf := ite_f hf c_2
    refine lv_aload_n hx hb dX11_type_17 rfl (lv_at hl 0 rfl) ?_
    refine gfX11_26 X Y (v := .ref (At 0)) 0 rfl rfl dX11_type_18 ?_
    refine lv_iload_n hx hb dX11_type_21 rfl (lv_at hl 1 rfl) ?_
    obtain ⟨r_3, tby_4, tln_5, ho_12, hf⟩ := bd3_some hf
    refine t_i Y (bk Y [21, 22, 23] [0, 1, 2, 3, 4, 5, 6, 7, 8, 9, 10, 11, 12, 13, 14, 15, 16, 17, 18, 19, 20, 24, 25, 26, 27, 28, 29, 30, 31, 32, 33, 34, 35, 36, 37] [0, 1, 2, 3, 4, 5, 6, 7, 8, 9, 10, 11, 12, 13, 14, 15, 16, 17, 18, 19, 20, 35, 36, 37, 21, 22, 23, 24, 25, 26, 27, 28, 29, 30, 31, 32, 33, 34] (wr := [(Ax 0, .inr (11, [.ref (Ac 0), .ref (Ad 0), .ref (Ax 1), .int xik, .ref (At 0), .ref (Ab 0), .ref (Aq 0), .ref (Af 0), .ref (Ax 2), .ref (Ax 3), .ref (Ax 4), .int xbc, .int xnc, .int xfc])), (Ax 1, .inl (Γ.2.1 4, 2, .inr (.inr (.inr (.inr (fun j => some (if j = 0 then Ai 0 else Aj 0))))))), (Ax 2, .inl (Γ.2.1 0, 2, .inl xns)), (Ax 3, .inl (Γ.2.1 0, 6, .inl xng)), (Ax 4, .inl (Γ.2.1 0, 3, .inl xnn)), (Ac 0, .inr (1, [.int csw, .int cca, .int csi, .int cab, .int cun, .int csg, .ref (Ac 1), .ref (Ac 2), .ref (Ac 3)])), (Ac 1, .inl (Γ.2.1 0, 48, .inl cfa)), (Ac 2, .inl (Γ.2.1 0, 8, .inl che)), (Ac 3, .inl (Γ.2.1 0, 18, .inl cst)), (Ad 0, .inr (1, [.int dsw, .int dca, .int dsi, .int dab, .int dun, .int dsg, .ref (Ad 1), .ref (Ad 2), .ref (Ad 3)])), (Ad 1, .inl (Γ.2.1 0, 48, .inl dfa)), (Ad 2, .inl (Γ.2.1 0, 8, .inl dhe)), (Ad 3, .inl (Γ.2.1 0, 18, .inl dst)), (Ai 0, .inr (1, [.int isw, .int ica, .int isi, .int iab, .int iun, .int isg, .ref (Ai 1), .ref (Ai 2), .ref (Ai 3)])), (Ai 1, .inl (Γ.2.1 0, 48, .inl ifa)), (Ai 2, .inl (Γ.2.1 0, 8, .inl ihe)), (Ai 3, .inl (Γ.2.1 0, 18, .inl ist)), (Aj 0, .inr (1, [.int jsw, .int jca, .int jsi, .int jab, .int jun, .int jsg, .ref (Aj 1), .ref (Aj 2), .ref (Aj 3)])), (Aj 1, .inl (Γ.2.1 0, 48, .inl jfa)), (Aj 2, .inl (Γ.2.1 0, 8, .inl jhe)), (Aj 3, .inl (Γ.2.1 0, 18, .inl jst)), (Ab 0, .inr (0, [.ref (Ab 1), .int blo, .int bwh, .int bow, .int bom])), (Ab 1, .inl (Γ.2.1 3, 6, .inr (.inr (.inr (.inr (fun j => some (Ab (2 + j)))))))), (Ab 2, .inr (8, [])), (Ab 3, .inr (2, [])), (Ab 4, .inr (5, [])), (Ab 5, .inr (9, [])), (Ab 6, .inr (7, [])), (Ab 7, .inr (4, [])), (Aq 0, .inr (6, [.ref (Aq 1), .ref (Aq 2), .ref (Aq 3), .ref (Aq 4), .int qts, .int qbb, .int qbc, .int qbw])), (Aq 1, .inl (Γ.2.1 0, 3, .inl qhe)), (Aq 2, .inl (Γ.2.1 0, 27, .inl qbi)), (Aq 3, .inl (Γ.2.1 0, 27, .inl qhv)), (Aq 4, .inl (Γ.2.1 0, 27, .inl qwo)), (Af 0, .inr (3, [.long fab, .long fbe]))]) (ws' := ((WX Γ Ax Ac Ad Ai Aj At Ab Aq Af xik xns xng xnn xbc xnc xfc) ++ ((WC Γ Ac csw cca csi cab cun csg cfa che cst) ++ ((WC Γ Ad dsw dca dsi dab dun dsg dfa dhe dst) ++ ((WC Γ Ai isw ica isi iab iun isg ifa ihe ist) ++ ((WC Γ Aj jsw jca jsi jab jun jsg jfa jhe jst) ++ ((WT Γ At tby_4 tnu tln_5 tat tsr ttk tnm tit tft) ++ ((WB Γ Ab blo bwh bow bom) ++ ((WQ Γ Aq qhe qbi qhv qwo qts qbb qbc qbw) ++ (WF Γ Af fab fbe)))))))))) rfl rfl rfl (by decide) rfl rfl) (r_V (As := [.int x1]) (rest := []) X (c_pre X Y [21, 22, 23] rfl rfl) (cT_append ho_12) (cwX11_108 X (by decide)) (va_recv X.K Y.1 (q := (RX10, TX10, 9)) (q0 := 21) (ci := 10) rfl rfl) rfl hl.1 (Nat.le_of_ble_eq_true rfl) rfl dX11_type_22 ⟨Nat.zero_le _, Nat.zero_le _⟩) (fun H locs Y => ?_)
    refine lv_if_eq (tgt := 38) hx hb dX11_type_25 (by decide) (fun c_6 => ?_) (fun c_6 => ?_)
    · have hf := ite_t hf c_6
      refine lv_aload_n hx hb dX11_type_38 rfl (lv_at hl 0 rfl) ?_
      refine lv_bipush (v := (-4 : Int32)) hx hb dX11_type_39 (by decide) ?_
      obtain ⟨r_7, xbc_8, xnc_9, xfc_10, ho_11, hf⟩ := bd4_some hf
      refine t_i Y (bkS Y) (r_V (As := [.int (-4 : Int32)]) (rest := []) X (c_preS X Y) (cX_refuse ho_11) (cwX11_71 X (by decide)) (va_recv X.K Y.1 (q := (RX11, TX11, 14)) (q0 := 0) (ci := 11) rfl rfl) rfl hl.1 (Nat.le_of_ble_eq_true rfl) rfl dX11_type_41 ⟨Nat.zero_le _, Nat.zero_le _⟩) (fun H locs Y => ?_)
      obtain ⟨e90, e91, e92, e93, e94, e95⟩ := sj6 hf
      subst e90
      subst e91
      subst e92
      subst e93
      subst e94
      subst e95
      exact x_iret X Y dX11_type_44
    · have hf := ite_f hf c_6
      refine lv_aload_n hx hb dX11_type_28 rfl (lv_at hl 0 rfl) ?_
      refine gfX11_26 X Y (v := .ref (At 0)) 0 rfl rfl dX11_type_29 ?_
      refine gfX11_111 X Y (v := .int tln_5) 21 rfl rfl dX11_type_32 ?_
      refine lv_goto (tgt := 44) hx hb dX11_type_35 (by decide) ?_
      obtain ⟨e90, e91, e92, e93, e94, e95⟩ := sj6 hf
      subst e90
      subst e91
      subst e92
      subst e93
      subst e94
      subst e95
      exact x_iret X Y dX11_type_44
  · have hf := ite_t hf c_2
    refine lv_aload_n hx hb dX11_type_10 rfl (lv_at hl 0 rfl) ?_
    refine lv_bipush (v := (-2 : Int32)) hx hb dX11_type_11 (by decide) ?_
    obtain ⟨r_13, xbc_14, xnc_15, xfc_16, ho_17, hf⟩ := bd4_some hf
    refine t_i Y (bkS Y) (r_V (As := [.int (-2 : Int32)]) (rest := []) X (c_preS X Y) (cX_refuse ho_17) (cwX11_71 X (by decide)) (va_recv X.K Y.1 (q := (RX11, TX11, 14)) (q0 := 0) (ci := 11) rfl rfl) rfl hl.1 (Nat.le_of_ble_eq_true rfl) rfl dX11_type_13 ⟨Nat.zero_le _, Nat.zero_le _⟩) (fun H locs Y => ?_)
    obtain ⟨e90, e91, e92, e93, e94, e95⟩ := sj6 hf
    subst e90
    subst e91
    subst e92
    subst e93
    subst e94
    subst e95
    exact x_iret X Y dX11_type_16
theorem cX_type {l : Launch} {Γ : Gm} {Ax : Nat → Nat} {Ac : Nat → Nat} {Ad : Nat → Nat} {Ai : Nat → Nat} {Aj : Nat → Nat} {At : Nat → Nat} {Ab : Nat → Nat} {Aq : Nat → Nat} {Af : Nat → Nat} {xik : Int32} {xns : Nat → Int32} {xng : Nat → Int32} {xnn : Nat → Int32} {xbc : Int32} {xnc : Int32} {xfc : Int32} {csw : Int32} {cca : Int32} {csi : Int32} {cab : Int32} {cun : Int32} {csg : Int32} {cfa : Nat → Int32} {che : Nat → Int32} {cst : Nat → Int32} {dsw : Int32} {dca : Int32} {dsi : Int32} {dab : Int32} {dun : Int32} {dsg : Int32} {dfa : Nat → Int32} {dhe : Nat → Int32} {dst : Nat → Int32} {isw : Int32} {ica : Int32} {isi : Int32} {iab : Int32} {iun : Int32} {isg : Int32} {ifa : Nat → Int32} {ihe : Nat → Int32} {ist : Nat → Int32} {jsw : Int32} {jca : Int32} {jsi : Int32} {jab : Int32} {jun : Int32} {jsg : Int32} {jfa : Nat → Int32} {jhe : Nat → Int32} {jst : Nat → Int32} {tby : Nat → Int32} {tnu : Nat → Int32} {tln : Int32} {tat : Int32} {tsr : Int32} {ttk : Int32} {tnm : Int32} {tit : Int32} {tft : Int32} {blo : Int32} {bwh : Int32} {bow : Int32} {bom : Int32} {qhe : Nat → Int32} {qbi : Nat → Int32} {qhv : Nat → Int32} {qwo : Nat → Int32} {qts : Int32} {qbb : Int32} {qbc : Int32} {qbw : Int32} {fab : Int64} {fbe : Int64} {xbc_z : Int32} {xnc_z : Int32} {xfc_z : Int32} {tby_z : Nat → Int32} {tln_z : Int32} {r0 : Int32} {x1 : Int32} (h : X_type x1 xbc xnc xfc tby tln = some (r0, xbc_z, xnc_z, xfc_z, tby_z, tln_z)) : CI l Γ yX11_type (Cond.code yX11_type cX11_type 2 (some .int) :: GW) rmX_type [.ref (Ax 0), .int x1] ((WX Γ Ax Ac Ad Ai Aj At Ab Aq Af xik xns xng xnn xbc xnc xfc) ++ ((WC Γ Ac csw cca csi cab cun csg cfa che cst) ++ ((WC Γ Ad dsw dca dsi dab dun dsg dfa dhe dst) ++ ((WC Γ Ai isw ica isi iab iun isg ifa ihe ist) ++ ((WC Γ Aj jsw jca jsi jab jun jsg jfa jhe jst) ++ ((WT Γ At tby tnu tln tat tsr ttk tnm tit tft) ++ ((WB Γ Ab blo bwh bow bom) ++ ((WQ Γ Aq qhe qbi qhv qwo qts qbb qbc qbw) ++ (WF Γ Af fab fbe))))))))) ((WX Γ Ax Ac Ad Ai Aj At Ab Aq Af xik xns xng xnn xbc_z xnc_z xfc_z) ++ ((WC Γ Ac csw cca csi cab cun csg cfa che cst) ++ ((WC Γ Ad dsw dca dsi dab dun dsg dfa dhe dst) ++ ((WC Γ Ai isw ica isi iab iun isg ifa ihe ist) ++ ((WC Γ Aj jsw jca jsi jab jun jsg jfa jhe jst) ++ ((WT Γ At tby_z tnu tln_z tat tsr ttk tnm tit tft) ++ ((WB Γ Ab blo bwh bow bom) ++ ((WQ Γ Aq qhe qbi qhv qwo qts qbb qbc qbw) ++ (WF Γ Af fab fbe))))))))) r0 := ofBody (Qc := QcI Γ _ _ r0) (by decide) (Nat.le_of_ble_eq_true rfl) (fun p e s m below meth c ls _ X Y hl => bX_type_e X h Y hl)
theorem pfX11_111 (X : Cx Γ p s m args meth c RX11 cc nL ret w0) (Y : Wd Γ w0 s ws H locs) (q0 : Nat) {fs : List Value} (he : ws[q0]? = some (a, .inr (10, fs))) {v : Value} (hn : narrow (tyX10 2) v = v) (hfit : fits (tyX10 2) v = true) (hl : 2 < fs.length) (hw : ws.set q0 (a, .inr (10, fs.set 2 v)) = ws') (hdg : decode cc pc = .ok (.putfield 111, 3)) (kk : ∀ (H1 : Heap) (locs1 : List Loc), Wd Γ w0 s ws' H1 locs1 → W p l e R s m args below meth c H1 locs1 cells slots Q (F0 m (pc + 3) ls rest)) : W p l e R s m args below meth c H locs cells slots Q (F0 m pc ls (v :: .ref a :: rest)) := x_putN X Y iX10 tyX10 tyX10_ok nmX10 rfl 2 (by decide) rfl kw498 rfl q0 he hn hfit hl hw hdg kk
def rmX_clear : Room := { frames := 0, cells := 0, slots := 0, locals := 0 }
def X_clear (tln : Int32) : Option (Int32 × Int32) := some (tln, (0 : Int32))
set_option maxHeartbeats 4000000 in
set_option maxRecDepth 100000 in
theorem bX_clear_e {Ax : Nat → Nat} {Ac : Nat → Nat} {Ad : Nat → Nat} {Ai : Nat → Nat} {Aj : Nat → Nat} {At : Nat → Nat} {Ab : Nat → Nat} {Aq : Nat → Nat} {Af : Nat → Nat} {xik : Int32} {xns : Nat → Int32} {xng : Nat → Int32} {xnn : Nat → Int32} {xbc : Int32} {xnc : Int32} {xfc : Int32} {csw : Int32} {cca : Int32} {csi : Int32} {cab : Int32} {cun : Int32} {csg : Int32} {cfa : Nat → Int32} {che : Nat → Int32} {cst : Nat → Int32} {dsw : Int32} {dca : Int32} {dsi : Int32} {dab : Int32} {dun : Int32} {dsg : Int32} {dfa : Nat → Int32} {dhe : Nat → Int32} {dst : Nat → Int32} {isw : Int32} {ica : Int32} {isi : Int32} {iab : Int32} {iun : Int32} {isg : Int32} {ifa : Nat → Int32} {ihe : Nat → Int32} {ist : Nat → Int32} {jsw : Int32} {jca : Int32} {jsi : Int32} {jab : Int32} {jun : Int32} {jsg : Int32} {jfa : Nat → Int32} {jhe : Nat → Int32} {jst : Nat → Int32} {tby : Nat → Int32} {tnu : Nat → Int32} {tln : Int32} {tat : Int32} {tsr : Int32} {ttk : Int32} {tnm : Int32} {tit : Int32} {tft : Int32} {blo : Int32} {bwh : Int32} {bow : Int32} {bom : Int32} {qhe : Nat → Int32} {qbi : Nat → Int32} {qhv : Nat → Int32} {qwo : Nat → Int32} {qts : Int32} {qbb : Int32} {qbc : Int32} {qbw : Int32} {fab : Int64} {fbe : Int64} {tln_z : Int32} {r0 : Int32} (X : Cx Γ p s m args meth c RX11 cX11_clear 2 (some .int) w0) (hf : X_clear tln = some (r0, tln_z)) (Y : Wd Γ w0 s ((WX Γ Ax Ac Ad Ai Aj At Ab Aq Af xik xns xng xnn xbc xnc xfc) ++ ((WC Γ Ac csw cca csi cab cun csg cfa che cst) ++ ((WC Γ Ad dsw dca dsi dab dun dsg dfa dhe dst) ++ ((WC Γ Ai isw ica isi iab iun isg ifa ihe ist) ++ ((WC Γ Aj jsw jca jsi jab jun jsg jfa jhe jst) ++ ((WT Γ At tby tnu tln tat tsr ttk tnm tit tft) ++ ((WB Γ Ab blo bwh bow bom) ++ ((WQ Γ Aq qhe qbi qhv qwo qts qbb qbc qbw) ++ (WF Γ Af fab fbe))))))))) H locs) (hl : lv_has ls 2 [(0, .ref (Ax 0))]) : W p l e rmX_clear s m args below meth c H locs 0 0 (EI Γ below args s w0 ((WX Γ Ax Ac Ad Ai Aj At Ab Aq Af xik xns xng xnn xbc xnc xfc) ++ ((WC Γ Ac csw cca csi cab cun csg cfa che cst) ++ ((WC Γ Ad dsw dca dsi dab dun dsg dfa dhe dst) ++ ((WC Γ Ai isw ica isi iab iun isg ifa ihe ist) ++ ((WC Γ Aj jsw jca jsi jab jun jsg jfa jhe jst) ++ ((WT Γ At tby tnu tln_z tat tsr ttk tnm tit tft) ++ ((WB Γ Ab blo bwh bow bom) ++ ((WQ Γ Aq qhe qbi qhv qwo qts qbb qbc qbw) ++ (WF Γ Af fab fbe))))))))) r0) (F0 m 0 ls []) := by
  have hx := X.1
  have hb := X.2.1
  refine lv_aload_n hx hb dX11_clear_0 rfl (lv_at hl 0 rfl) ?_
  refine gfX11_26 X Y (v := .ref (At 0)) 0 rfl rfl dX11_clear_1 ?_
  refine gfX11_111 X Y (v := .int tln) 21 rfl rfl dX11_clear_4 ?_
  refine lv_istore_n (lv' := [(1, .int tln), (0, .ref (Ax 0))]) hx hb dX11_clear_7 rfl hl (by decide) rfl (fun ls hl => ?_)
  refine lv_aload_n hx hb dX11_clear_8 rfl (lv_at hl 1 rfl) ?_
  refine gfX11_26 X Y (v := .ref (At 0)) 0 rfl rfl dX11_clear_9 ?_
  refine lv_iconst (v := (0 : Int32)) hx hb dX11_clear_12 (by decide) ?_
  refine pfX11_111 X Y 21 rfl rfl rfl (Nat.le_of_ble_eq_true rfl) (ws' := ((WX Γ Ax Ac Ad Ai Aj At Ab Aq Af xik xns xng xnn xbc xnc xfc) ++ ((WC Γ Ac csw cca csi cab cun csg cfa che cst) ++ ((WC Γ Ad dsw dca dsi dab dun dsg dfa dhe dst) ++ ((WC Γ Ai isw ica isi iab iun isg ifa ihe ist) ++ ((WC Γ Aj jsw jca jsi jab jun jsg jfa jhe jst) ++ ((WT Γ At tby tnu (0 : Int32) tat tsr ttk tnm tit tft) ++ ((WB Γ Ab blo bwh bow bom) ++ ((WQ Γ Aq qhe qbi qhv qwo qts qbb qbc qbw) ++ (WF Γ Af fab fbe)))))))))) rfl dX11_clear_13 (fun H locs Y => ?_)
  refine lv_iload_n hx hb dX11_clear_16 rfl (lv_at hl 0 rfl) ?_
  obtain ⟨e90, e91⟩ := sj2 hf
  subst e90
  subst e91
  exact x_iret X Y dX11_clear_17
theorem cX_clear {l : Launch} {Γ : Gm} {Ax : Nat → Nat} {Ac : Nat → Nat} {Ad : Nat → Nat} {Ai : Nat → Nat} {Aj : Nat → Nat} {At : Nat → Nat} {Ab : Nat → Nat} {Aq : Nat → Nat} {Af : Nat → Nat} {xik : Int32} {xns : Nat → Int32} {xng : Nat → Int32} {xnn : Nat → Int32} {xbc : Int32} {xnc : Int32} {xfc : Int32} {csw : Int32} {cca : Int32} {csi : Int32} {cab : Int32} {cun : Int32} {csg : Int32} {cfa : Nat → Int32} {che : Nat → Int32} {cst : Nat → Int32} {dsw : Int32} {dca : Int32} {dsi : Int32} {dab : Int32} {dun : Int32} {dsg : Int32} {dfa : Nat → Int32} {dhe : Nat → Int32} {dst : Nat → Int32} {isw : Int32} {ica : Int32} {isi : Int32} {iab : Int32} {iun : Int32} {isg : Int32} {ifa : Nat → Int32} {ihe : Nat → Int32} {ist : Nat → Int32} {jsw : Int32} {jca : Int32} {jsi : Int32} {jab : Int32} {jun : Int32} {jsg : Int32} {jfa : Nat → Int32} {jhe : Nat → Int32} {jst : Nat → Int32} {tby : Nat → Int32} {tnu : Nat → Int32} {tln : Int32} {tat : Int32} {tsr : Int32} {ttk : Int32} {tnm : Int32} {tit : Int32} {tft : Int32} {blo : Int32} {bwh : Int32} {bow : Int32} {bom : Int32} {qhe : Nat → Int32} {qbi : Nat → Int32} {qhv : Nat → Int32} {qwo : Nat → Int32} {qts : Int32} {qbb : Int32} {qbc : Int32} {qbw : Int32} {fab : Int64} {fbe : Int64} {tln_z : Int32} {r0 : Int32} (h : X_clear tln = some (r0, tln_z)) : CI l Γ yX11_clear (Cond.code yX11_clear cX11_clear 2 (some .int) :: GW) rmX_clear [.ref (Ax 0)] ((WX Γ Ax Ac Ad Ai Aj At Ab Aq Af xik xns xng xnn xbc xnc xfc) ++ ((WC Γ Ac csw cca csi cab cun csg cfa che cst) ++ ((WC Γ Ad dsw dca dsi dab dun dsg dfa dhe dst) ++ ((WC Γ Ai isw ica isi iab iun isg ifa ihe ist) ++ ((WC Γ Aj jsw jca jsi jab jun jsg jfa jhe jst) ++ ((WT Γ At tby tnu tln tat tsr ttk tnm tit tft) ++ ((WB Γ Ab blo bwh bow bom) ++ ((WQ Γ Aq qhe qbi qhv qwo qts qbb qbc qbw) ++ (WF Γ Af fab fbe))))))))) ((WX Γ Ax Ac Ad Ai Aj At Ab Aq Af xik xns xng xnn xbc xnc xfc) ++ ((WC Γ Ac csw cca csi cab cun csg cfa che cst) ++ ((WC Γ Ad dsw dca dsi dab dun dsg dfa dhe dst) ++ ((WC Γ Ai isw ica isi iab iun isg ifa ihe ist) ++ ((WC Γ Aj jsw jca jsi jab jun jsg jfa jhe jst) ++ ((WT Γ At tby tnu tln_z tat tsr ttk tnm tit tft) ++ ((WB Γ Ab blo bwh bow bom) ++ ((WQ Γ Aq qhe qbi qhv qwo qts qbb qbc qbw) ++ (WF Γ Af fab fbe))))))))) r0 := ofBody (Qc := QcI Γ _ _ r0) (by decide) (Nat.le_of_ble_eq_true rfl) (fun p e s m below meth c ls _ X Y hl => bX_clear_e X h Y hl)
theorem gfX11_16 (X : Cx Γ p s m args meth c RX11 cc nL ret w0) (Y : Wd Γ w0 s ws H locs) {v : Value} (q0 : Nat) {fs : List Value} (he : ws[q0]? = some (a, .inr (11, fs))) (hv : fs[1]? = some v) (hdg : decode cc pc = .ok (.getfield 16, 3)) (kk : W p l e R s m args below meth c H locs cells slots Q (F0 m (pc + 3) ls (v :: rest))) : W p l e R s m args below meth c H locs cells slots Q (F0 m pc ls (.ref a :: rest)) := x_get X Y iX11 rfl 1 (by decide) rfl kw528 q0 he hv hdg kk
theorem pfX11_118 (X : Cx Γ p s m args meth c RX11 cc nL ret w0) (Y : Wd Γ w0 s ws H locs) (q0 : Nat) {fs : List Value} (he : ws[q0]? = some (a, .inr (1, fs))) {v : Value} (hn : narrow (tyX1 4) v = v) (hfit : fits (tyX1 4) v = true) (hl : 4 < fs.length) (hw : ws.set q0 (a, .inr (1, fs.set 4 v)) = ws') (hdg : decode cc pc = .ok (.putfield 118, 3)) (kk : ∀ (H1 : Heap) (locs1 : List Loc), Wd Γ w0 s ws' H1 locs1 → W p l e R s m args below meth c H1 locs1 cells slots Q (F0 m (pc + 3) ls rest)) : W p l e R s m args below meth c H locs cells slots Q (F0 m pc ls (v :: .ref a :: rest)) := x_putN X Y iX1 tyX1 tyX1_ok nmX1 rfl 4 (by decide) rfl kw496 rfl q0 he hn hfit hl hw hdg kk
theorem dmX1_becomeV : yX1_become.cls = RX1 ∧ yX1_become.cls ≠ "java/lang/invoke/MethodHandle" ∧ yX1_become.cls ≠ "java/lang/invoke/VarHandle" ∧ (parseMethodDescriptor yX1_become.desc).map (fun d => d.parameters.length) = some 1 := by decide +kernel
theorem cwX11_121 (X : Cx Γ p s m args meth c RX11 cc nL ret w0) (hR : rmC_become.frames + 1 ≤ R.frames ∧ 8 + (2 + 11) + rmC_become.locals ≤ R.locals) : CallW R s args RX11 RX1 121 yX1_become cX1_become 2 none (Cond.code yX1_become cX1_become 2 none :: GW) rmC_become 0 0 1 := cw_V X kw529 kw530 kw531 kw228 kw532 dmX1_becomeV rfl rfl hR
theorem dmX10_readIntoV : yX10_readInto.cls = RX10 ∧ yX10_readInto.cls ≠ "java/lang/invoke/MethodHandle" ∧ yX10_readInto.cls ≠ "java/lang/invoke/VarHandle" ∧ (parseMethodDescriptor yX10_readInto.desc).map (fun d => d.parameters.length) = some 1 := by decide +kernel
theorem cwX11_114 (X : Cx Γ p s m args meth c RX11 cc nL ret w0) (hR : rmT_readInto.frames + 1 ≤ R.frames ∧ 8 + (3 + 11) + rmT_readInto.locals ≤ R.locals) : CallW R s args RX11 RX10 114 yX10_readInto cX10_readInto 3 (some .int) (Cond.code yX10_readInto cX10_readInto 3 (some .int) :: GW) rmT_readInto 0 0 1 := cw_V X kw533 kw534 kw535 kw415 kw536 dmX10_readIntoV rfl rfl hR
def rmX_read : Room := { frames := 10, cells := 0, slots := 0, locals := 213 }
def X_read (csw : Int32) (cca : Int32) (csi : Int32) (cab : Int32) (cun : Int32) (csg : Int32) (cfa : Nat → Int32) (che : Nat → Int32) (cst : Nat → Int32) (dsw : Int32) (dca : Int32) (dsi : Int32) (dab : Int32) (dun : Int32) (dsg : Int32) (dfa : Nat → Int32) (dhe : Nat → Int32) (dst : Nat → Int32) (tby : Nat → Int32) (tnu : Nat → Int32) (tln : Int32) (tat : Int32) (tsr : Int32) (ttk : Int32) (tnm : Int32) (tit : Int32) (tft : Int32) : Option (Int32 × Int32 × Int32 × Int32 × Int32 × Int32 × Int32 × (Nat → Int32) × (Nat → Int32) × (Nat → Int32) × Int32 × Int32 × Int32 × Int32 × Int32 × Int32 × (Nat → Int32) × (Nat → Int32) × (Nat → Int32) × Int32 × Int32 × Int32 × Int32 × Int32 × Int32) := bd16 (T_readInto tby tnu tln tat tsr ttk tnm tit tft dsw dca dsi dab dun dsg dfa dhe) (fun (r_1 : Int32) (tnu_2 : Nat → Int32) (tat_3 : Int32) (tsr_4 : Int32) (ttk_5 : Int32) (tnm_6 : Int32) (tit_7 : Int32) (tft_8 : Int32) (dsw_9 : Int32) (dca_10 : Int32) (dsi_11 : Int32) (dab_12 : Int32) (dun_13 : Int32) (dsg_14 : Int32) (dfa_15 : Nat → Int32) (dhe_16 : Nat → Int32) => if r_1 < 0 then (some (r_1, csw, cca, csi, cab, cun, csg, cfa, che, cst, dsw_9, dca_10, dsi_11, dab_12, dun_13, dsg_14, dfa_15, dhe_16, tnu_2, tat_3, tsr_4, ttk_5, tnm_6, tit_7, tft_8)) else (bd9 (C_become csw cca csi cab cun csg cfa che cst dsw_9 dca_10 dsi_11 dab_12 (0 : Int32) dsg_14 dfa_15 dhe_16 dst) (fun (csw_18 : Int32) (cca_19 : Int32) (csi_20 : Int32) (cab_21 : Int32) (cun_22 : Int32) (csg_23 : Int32) (cfa_24 : Nat → Int32) (che_25 : Nat → Int32) (cst_26 : Nat → Int32) => some (r_1, csw_18, cca_19, csi_20, cab_21, cun_22, csg_23, cfa_24, che_25, cst_26, dsw_9, dca_10, dsi_11, dab_12, (0 : Int32), dsg_14, dfa_15, dhe_16, tnu_2, tat_3, tsr_4, ttk_5, tnm_6, tit_7, tft_8))))
set_option maxHeartbeats 4000000 in
set_option maxRecDepth 100000 in
theorem bX_read_e {Ax : Nat → Nat} {Ac : Nat → Nat} {Ad : Nat → Nat} {Ai : Nat → Nat} {Aj : Nat → Nat} {At : Nat → Nat} {Ab : Nat → Nat} {Aq : Nat → Nat} {Af : Nat → Nat} {xik : Int32} {xns : Nat → Int32} {xng : Nat → Int32} {xnn : Nat → Int32} {xbc : Int32} {xnc : Int32} {xfc : Int32} {csw : Int32} {cca : Int32} {csi : Int32} {cab : Int32} {cun : Int32} {csg : Int32} {cfa : Nat → Int32} {che : Nat → Int32} {cst : Nat → Int32} {dsw : Int32} {dca : Int32} {dsi : Int32} {dab : Int32} {dun : Int32} {dsg : Int32} {dfa : Nat → Int32} {dhe : Nat → Int32} {dst : Nat → Int32} {isw : Int32} {ica : Int32} {isi : Int32} {iab : Int32} {iun : Int32} {isg : Int32} {ifa : Nat → Int32} {ihe : Nat → Int32} {ist : Nat → Int32} {jsw : Int32} {jca : Int32} {jsi : Int32} {jab : Int32} {jun : Int32} {jsg : Int32} {jfa : Nat → Int32} {jhe : Nat → Int32} {jst : Nat → Int32} {tby : Nat → Int32} {tnu : Nat → Int32} {tln : Int32} {tat : Int32} {tsr : Int32} {ttk : Int32} {tnm : Int32} {tit : Int32} {tft : Int32} {blo : Int32} {bwh : Int32} {bow : Int32} {bom : Int32} {qhe : Nat → Int32} {qbi : Nat → Int32} {qhv : Nat → Int32} {qwo : Nat → Int32} {qts : Int32} {qbb : Int32} {qbc : Int32} {qbw : Int32} {fab : Int64} {fbe : Int64} {csw_z : Int32} {cca_z : Int32} {csi_z : Int32} {cab_z : Int32} {cun_z : Int32} {csg_z : Int32} {cfa_z : Nat → Int32} {che_z : Nat → Int32} {cst_z : Nat → Int32} {dsw_z : Int32} {dca_z : Int32} {dsi_z : Int32} {dab_z : Int32} {dun_z : Int32} {dsg_z : Int32} {dfa_z : Nat → Int32} {dhe_z : Nat → Int32} {tnu_z : Nat → Int32} {tat_z : Int32} {tsr_z : Int32} {ttk_z : Int32} {tnm_z : Int32} {tit_z : Int32} {tft_z : Int32} {r0 : Int32} (X : Cx Γ p s m args meth c RX11 cX11_read 2 (some .int) w0) (hf : X_read csw cca csi cab cun csg cfa che cst dsw dca dsi dab dun dsg dfa dhe dst tby tnu tln tat tsr ttk tnm tit tft = some (r0, csw_z, cca_z, csi_z, cab_z, cun_z, csg_z, cfa_z, che_z, cst_z, dsw_z, dca_z, dsi_z, dab_z, dun_z, dsg_z, dfa_z, dhe_z, tnu_z, tat_z, tsr_z, ttk_z, tnm_z, tit_z, tft_z)) (Y : Wd Γ w0 s ((WX Γ Ax Ac Ad Ai Aj At Ab Aq Af xik xns xng xnn xbc xnc xfc) ++ ((WC Γ Ac csw cca csi cab cun csg cfa che cst) ++ ((WC Γ Ad dsw dca dsi dab dun dsg dfa dhe dst) ++ ((WC Γ Ai isw ica isi iab iun isg ifa ihe ist) ++ ((WC Γ Aj jsw jca jsi jab jun jsg jfa jhe jst) ++ ((WT Γ At tby tnu tln tat tsr ttk tnm tit tft) ++ ((WB Γ Ab blo bwh bow bom) ++ ((WQ Γ Aq qhe qbi qhv qwo qts qbb qbc qbw) ++ (WF Γ Af fab fbe))))))))) H locs) (hl : lv_has ls 2 [(0, .ref (Ax 0))]) : W p l e rmX_read s m args below meth c H locs 0 0 (EI Γ below args s w0 ((WX Γ Ax Ac Ad Ai Aj At Ab Aq Af xik xns xng xnn xbc xnc xfc) ++ ((WC Γ Ac csw_z cca_z csi_z cab_z cun_z csg_z cfa_z che_z cst_z) ++ ((WC Γ Ad dsw_z dca_z dsi_z dab_z dun_z dsg_z dfa_z dhe_z dst) ++ ((WC Γ Ai isw ica isi iab iun isg ifa ihe ist) ++ ((WC Γ Aj jsw jca jsi jab jun jsg jfa jhe jst) ++ ((WT Γ At tby tnu_z tln tat_z tsr_z ttk_z tnm_z tit_z tft_z) ++ ((WB Γ Ab blo bwh bow bom) ++ ((WQ Γ Aq qhe qbi qhv qwo qts qbb qbc qbw) ++ (WF Γ Af fab fbe))))))))) r0) (F0 m 0 ls []) := by
  have hx := X.1
  have hb := X.2.1
  refine lv_aload_n hx hb dX11_read_0 rfl (lv_at hl 0 rfl) ?_
  refine gfX11_26 X Y (v := .ref (At 0)) 0 rfl rfl dX11_read_1 ?_
  refine lv_aload_n hx hb dX11_read_4 rfl (lv_at hl 0 rfl) ?_
  refine gfX11_16 X Y (v := .ref (Ad 0)) 0 rfl rfl dX11_read_5 ?_
  obtain ⟨r_1, tnu_2, tat_3, tsr_4, ttk_5, tnm_6, tit_7, tft_8, dsw_9, dca_10, dsi_11, dab_12, dun_13, dsg_14, dfa_15, dhe_16, ho_28, hf⟩ := bd16_some hf
  refine t_i Y (bk Y [21, 22, 23, 9, 10, 11, 12] [0, 1, 2, 3, 4, 5, 6, 7, 8, 13, 14, 15, 16, 17, 18, 19, 20, 24, 25, 26, 27, 28, 29, 30, 31, 32, 33, 34, 35, 36, 37] [0, 1, 2, 3, 4, 5, 6, 7, 8, 34, 35, 36, 37, 9, 10, 11, 12, 13, 14, 15, 16, 31, 32, 33, 17, 18, 19, 20, 21, 22, 23, 24, 25, 26, 27, 28, 29, 30] (wr := [(Ax 0, .inr (11, [.ref (Ac 0), .ref (Ad 0), .ref (Ax 1), .int xik, .ref (At 0), .ref (Ab 0), .ref (Aq 0), .ref (Af 0), .ref (Ax 2), .ref (Ax 3), .ref (Ax 4), .int xbc, .int xnc, .int xfc])), (Ax 1, .inl (Γ.2.1 4, 2, .inr (.inr (.inr (.inr (fun j => some (if j = 0 then Ai 0 else Aj 0))))))), (Ax 2, .inl (Γ.2.1 0, 2, .inl xns)), (Ax 3, .inl (Γ.2.1 0, 6, .inl xng)), (Ax 4, .inl (Γ.2.1 0, 3, .inl xnn)), (Ac 0, .inr (1, [.int csw, .int cca, .int csi, .int cab, .int cun, .int csg, .ref (Ac 1), .ref (Ac 2), .ref (Ac 3)])), (Ac 1, .inl (Γ.2.1 0, 48, .inl cfa)), (Ac 2, .inl (Γ.2.1 0, 8, .inl che)), (Ac 3, .inl (Γ.2.1 0, 18, .inl cst)), (Ai 0, .inr (1, [.int isw, .int ica, .int isi, .int iab, .int iun, .int isg, .ref (Ai 1), .ref (Ai 2), .ref (Ai 3)])), (Ai 1, .inl (Γ.2.1 0, 48, .inl ifa)), (Ai 2, .inl (Γ.2.1 0, 8, .inl ihe)), (Ai 3, .inl (Γ.2.1 0, 18, .inl ist)), (Aj 0, .inr (1, [.int jsw, .int jca, .int jsi, .int jab, .int jun, .int jsg, .ref (Aj 1), .ref (Aj 2), .ref (Aj 3)])), (Aj 1, .inl (Γ.2.1 0, 48, .inl jfa)), (Aj 2, .inl (Γ.2.1 0, 8, .inl jhe)), (Aj 3, .inl (Γ.2.1 0, 18, .inl jst)), (Ab 0, .inr (0, [.ref (Ab 1), .int blo, .int bwh, .int bow, .int bom])), (Ab 1, .inl (Γ.2.1 3, 6, .inr (.inr (.inr (.inr (fun j => some (Ab (2 + j)))))))), (Ab 2, .inr (8, [])), (Ab 3, .inr (2, [])), (Ab 4, .inr (5, [])), (Ab 5, .inr (9, [])), (Ab 6, .inr (7, [])), (Ab 7, .inr (4, [])), (Aq 0, .inr (6, [.ref (Aq 1), .ref (Aq 2), .ref (Aq 3), .ref (Aq 4), .int qts, .int qbb, .int qbc, .int qbw])), (Aq 1, .inl (Γ.2.1 0, 3, .inl qhe)), (Aq 2, .inl (Γ.2.1 0, 27, .inl qbi)), (Aq 3, .inl (Γ.2.1 0, 27, .inl qhv)), (Aq 4, .inl (Γ.2.1 0, 27, .inl qwo)), (Af 0, .inr (3, [.long fab, .long fbe]))]) (ws' := ((WX Γ Ax Ac Ad Ai Aj At Ab Aq Af xik xns xng xnn xbc xnc xfc) ++ ((WC Γ Ac csw cca csi cab cun csg cfa che cst) ++ ((WC Γ Ad dsw_9 dca_10 dsi_11 dab_12 dun_13 dsg_14 dfa_15 dhe_16 dst) ++ ((WC Γ Ai isw ica isi iab iun isg ifa ihe ist) ++ ((WC Γ Aj jsw jca jsi jab jun jsg jfa jhe jst) ++ ((WT Γ At tby tnu_2 tln tat_3 tsr_4 ttk_5 tnm_6 tit_7 tft_8) ++ ((WB Γ Ab blo bwh bow bom) ++ ((WQ Γ Aq qhe qbi qhv qwo qts qbb qbc qbw) ++ (WF Γ Af fab fbe)))))))))) rfl rfl rfl (by decide) rfl rfl) (r_V (As := [.ref (Ad 0)]) (rest := []) X (c_pre X Y [21, 22, 23, 9, 10, 11, 12] rfl rfl) (cT_readInto ho_28) (cwX11_114 X (by decide)) (va_recv X.K Y.1 (q := (RX10, TX10, 9)) (q0 := 21) (ci := 10) rfl rfl) rfl hl.1 (Nat.le_of_ble_eq_true rfl) rfl dX11_read_8 ⟨Nat.zero_le _, Nat.zero_le _⟩) (fun H locs Y => ?_)
  refine lv_istore_n (lv' := [(1, .int r_1), (0, .ref (Ax 0))]) hx hb dX11_read_11 rfl hl (by decide) rfl (fun ls hl => ?_)
  refine lv_iload_n hx hb dX11_read_12 rfl (lv_at hl 0 rfl) ?_
  refine lv_if_lt (tgt := 35) hx hb dX11_read_13 (by decide) (fun c_17 => ?_) (fun c_17 => ?_)
  · have hf := ite_t hf c_17
    refine lv_iload_n hx hb dX11_read_35 rfl (lv_at hl 0 rfl) ?_
    obtain ⟨e90, e91, e92, e93, e94, e95, e96, e97, e98, e99, e910, e911, e912, e913, e914, e915, e916, e917, e918, e919, e920, e921, e922, e923, e924⟩ := sj25 hf
    subst e90
    subst e91
    subst e92
    subst e93
    subst e94
    subst e95
    subst e96
    subst e97
    subst e98
    subst e99
    subst e910
    subst e911
    subst e912
    subst e913
    subst e914
    subst e915
    subst e916
    subst e917
    subst e918
    subst e919
    subst e920
    subst e921
    subst e922
    subst e923
    subst e924
    exact x_iret X Y dX11_read_36
  · have hf := ite_f hf c_17
    refine lv_aload_n hx hb dX11_read_16 rfl (lv_at hl 1 rfl) ?_
    refine gfX11_16 X Y (v := .ref (Ad 0)) 0 rfl rfl dX11_read_17 ?_
    refine lv_iconst (v := (0 : Int32)) hx hb dX11_read_20 (by decide) ?_
    refine pfX11_118 X Y 9 rfl rfl rfl (Nat.le_of_ble_eq_true rfl) (ws' := ((WX Γ Ax Ac Ad Ai Aj At Ab Aq Af xik xns xng xnn xbc xnc xfc) ++ ((WC Γ Ac csw cca csi cab cun csg cfa che cst) ++ ((WC Γ Ad dsw_9 dca_10 dsi_11 dab_12 (0 : Int32) dsg_14 dfa_15 dhe_16 dst) ++ ((WC Γ Ai isw ica isi iab iun isg ifa ihe ist) ++ ((WC Γ Aj jsw jca jsi jab jun jsg jfa jhe jst) ++ ((WT Γ At tby tnu_2 tln tat_3 tsr_4 ttk_5 tnm_6 tit_7 tft_8) ++ ((WB Γ Ab blo bwh bow bom) ++ ((WQ Γ Aq qhe qbi qhv qwo qts qbb qbc qbw) ++ (WF Γ Af fab fbe)))))))))) rfl dX11_read_21 (fun H locs Y => ?_)
    refine lv_aload_n hx hb dX11_read_24 rfl (lv_at hl 1 rfl) ?_
    refine gfX11_10 X Y (v := .ref (Ac 0)) 0 rfl rfl dX11_read_25 ?_
    refine lv_aload_n hx hb dX11_read_28 rfl (lv_at hl 1 rfl) ?_
    refine gfX11_16 X Y (v := .ref (Ad 0)) 0 rfl rfl dX11_read_29 ?_
    obtain ⟨csw_18, cca_19, csi_20, cab_21, cun_22, csg_23, cfa_24, che_25, cst_26, ho_27, hf⟩ := bd9_some hf
    refine t_v Y (bk Y [5, 6, 7, 8, 9, 10, 11, 12] [0, 1, 2, 3, 4, 13, 14, 15, 16, 17, 18, 19, 20, 21, 22, 23, 24, 25, 26, 27, 28, 29, 30, 31, 32, 33, 34, 35, 36, 37] [0, 1, 2, 3, 4, 30, 31, 32, 33, 34, 35, 36, 37, 5, 6, 7, 8, 9, 10, 11, 12, 13, 14, 15, 16, 17, 18, 19, 20, 21, 22, 23, 24, 25, 26, 27, 28, 29] (wr := [(Ax 0, .inr (11, [.ref (Ac 0), .ref (Ad 0), .ref (Ax 1), .int xik, .ref (At 0), .ref (Ab 0), .ref (Aq 0), .ref (Af 0), .ref (Ax 2), .ref (Ax 3), .ref (Ax 4), .int xbc, .int xnc, .int xfc])), (Ax 1, .inl (Γ.2.1 4, 2, .inr (.inr (.inr (.inr (fun j => some (if j = 0 then Ai 0 else Aj 0))))))), (Ax 2, .inl (Γ.2.1 0, 2, .inl xns)), (Ax 3, .inl (Γ.2.1 0, 6, .inl xng)), (Ax 4, .inl (Γ.2.1 0, 3, .inl xnn)), (Ai 0, .inr (1, [.int isw, .int ica, .int isi, .int iab, .int iun, .int isg, .ref (Ai 1), .ref (Ai 2), .ref (Ai 3)])), (Ai 1, .inl (Γ.2.1 0, 48, .inl ifa)), (Ai 2, .inl (Γ.2.1 0, 8, .inl ihe)), (Ai 3, .inl (Γ.2.1 0, 18, .inl ist)), (Aj 0, .inr (1, [.int jsw, .int jca, .int jsi, .int jab, .int jun, .int jsg, .ref (Aj 1), .ref (Aj 2), .ref (Aj 3)])), (Aj 1, .inl (Γ.2.1 0, 48, .inl jfa)), (Aj 2, .inl (Γ.2.1 0, 8, .inl jhe)), (Aj 3, .inl (Γ.2.1 0, 18, .inl jst)), (At 0, .inr (10, [.ref (At 1), .ref (At 2), .int tln, .int tat_3, .int tsr_4, .int ttk_5, .int tnm_6, .int tit_7, .int tft_8])), (At 1, .inl (Γ.2.1 1, 150, .inl tby)), (At 2, .inl (Γ.2.1 0, 6, .inl tnu_2)), (Ab 0, .inr (0, [.ref (Ab 1), .int blo, .int bwh, .int bow, .int bom])), (Ab 1, .inl (Γ.2.1 3, 6, .inr (.inr (.inr (.inr (fun j => some (Ab (2 + j)))))))), (Ab 2, .inr (8, [])), (Ab 3, .inr (2, [])), (Ab 4, .inr (5, [])), (Ab 5, .inr (9, [])), (Ab 6, .inr (7, [])), (Ab 7, .inr (4, [])), (Aq 0, .inr (6, [.ref (Aq 1), .ref (Aq 2), .ref (Aq 3), .ref (Aq 4), .int qts, .int qbb, .int qbc, .int qbw])), (Aq 1, .inl (Γ.2.1 0, 3, .inl qhe)), (Aq 2, .inl (Γ.2.1 0, 27, .inl qbi)), (Aq 3, .inl (Γ.2.1 0, 27, .inl qhv)), (Aq 4, .inl (Γ.2.1 0, 27, .inl qwo)), (Af 0, .inr (3, [.long fab, .long fbe]))]) (ws' := ((WX Γ Ax Ac Ad Ai Aj At Ab Aq Af xik xns xng xnn xbc xnc xfc) ++ ((WC Γ Ac csw_18 cca_19 csi_20 cab_21 cun_22 csg_23 cfa_24 che_25 cst_26) ++ ((WC Γ Ad dsw_9 dca_10 dsi_11 dab_12 (0 : Int32) dsg_14 dfa_15 dhe_16 dst) ++ ((WC Γ Ai isw ica isi iab iun isg ifa ihe ist) ++ ((WC Γ Aj jsw jca jsi jab jun jsg jfa jhe jst) ++ ((WT Γ At tby tnu_2 tln tat_3 tsr_4 ttk_5 tnm_6 tit_7 tft_8) ++ ((WB Γ Ab blo bwh bow bom) ++ ((WQ Γ Aq qhe qbi qhv qwo qts qbb qbc qbw) ++ (WF Γ Af fab fbe)))))))))) rfl rfl rfl (by decide) rfl rfl) (r_V (As := [.ref (Ad 0)]) (rest := []) X (c_pre X Y [5, 6, 7, 8, 9, 10, 11, 12] rfl rfl) (cC_become ho_27) (cwX11_121 X (by decide)) (va_recv X.K Y.1 (q := (RX1, TX1, 9)) (q0 := 5) (ci := 1) rfl rfl) rfl hl.1 (Nat.le_of_ble_eq_true rfl) rfl dX11_read_32 ⟨Nat.zero_le _, Nat.zero_le _⟩) (fun H locs Y => ?_)
    refine lv_iload_n hx hb dX11_read_35 rfl (lv_at hl 0 rfl) ?_
    obtain ⟨e90, e91, e92, e93, e94, e95, e96, e97, e98, e99, e910, e911, e912, e913, e914, e915, e916, e917, e918, e919, e920, e921, e922, e923, e924⟩ := sj25 hf
    subst e90
    subst e91
    subst e92
    subst e93
    subst e94
    subst e95
    subst e96
    subst e97
    subst e98
    subst e99
    subst e910
    subst e911
    subst e912
    subst e913
    subst e914
    subst e915
    subst e916
    subst e917
    subst e918
    subst e919
    subst e920
    subst e921
    subst e922
    subst e923
    subst e924
    exact x_iret X Y dX11_read_36
theorem cX_read {l : Launch} {Γ : Gm} {Ax : Nat → Nat} {Ac : Nat → Nat} {Ad : Nat → Nat} {Ai : Nat → Nat} {Aj : Nat → Nat} {At : Nat → Nat} {Ab : Nat → Nat} {Aq : Nat → Nat} {Af : Nat → Nat} {xik : Int32} {xns : Nat → Int32} {xng : Nat → Int32} {xnn : Nat → Int32} {xbc : Int32} {xnc : Int32} {xfc : Int32} {csw : Int32} {cca : Int32} {csi : Int32} {cab : Int32} {cun : Int32} {csg : Int32} {cfa : Nat → Int32} {che : Nat → Int32} {cst : Nat → Int32} {dsw : Int32} {dca : Int32} {dsi : Int32} {dab : Int32} {dun : Int32} {dsg : Int32} {dfa : Nat → Int32} {dhe : Nat → Int32} {dst : Nat → Int32} {isw : Int32} {ica : Int32} {isi : Int32} {iab : Int32} {iun : Int32} {isg : Int32} {ifa : Nat → Int32} {ihe : Nat → Int32} {ist : Nat → Int32} {jsw : Int32} {jca : Int32} {jsi : Int32} {jab : Int32} {jun : Int32} {jsg : Int32} {jfa : Nat → Int32} {jhe : Nat → Int32} {jst : Nat → Int32} {tby : Nat → Int32} {tnu : Nat → Int32} {tln : Int32} {tat : Int32} {tsr : Int32} {ttk : Int32} {tnm : Int32} {tit : Int32} {tft : Int32} {blo : Int32} {bwh : Int32} {bow : Int32} {bom : Int32} {qhe : Nat → Int32} {qbi : Nat → Int32} {qhv : Nat → Int32} {qwo : Nat → Int32} {qts : Int32} {qbb : Int32} {qbc : Int32} {qbw : Int32} {fab : Int64} {fbe : Int64} {csw_z : Int32} {cca_z : Int32} {csi_z : Int32} {cab_z : Int32} {cun_z : Int32} {csg_z : Int32} {cfa_z : Nat → Int32} {che_z : Nat → Int32} {cst_z : Nat → Int32} {dsw_z : Int32} {dca_z : Int32} {dsi_z : Int32} {dab_z : Int32} {dun_z : Int32} {dsg_z : Int32} {dfa_z : Nat → Int32} {dhe_z : Nat → Int32} {tnu_z : Nat → Int32} {tat_z : Int32} {tsr_z : Int32} {ttk_z : Int32} {tnm_z : Int32} {tit_z : Int32} {tft_z : Int32} {r0 : Int32} (h : X_read csw cca csi cab cun csg cfa che cst dsw dca dsi dab dun dsg dfa dhe dst tby tnu tln tat tsr ttk tnm tit tft = some (r0, csw_z, cca_z, csi_z, cab_z, cun_z, csg_z, cfa_z, che_z, cst_z, dsw_z, dca_z, dsi_z, dab_z, dun_z, dsg_z, dfa_z, dhe_z, tnu_z, tat_z, tsr_z, ttk_z, tnm_z, tit_z, tft_z)) : CI l Γ yX11_read (Cond.code yX11_read cX11_read 2 (some .int) :: GW) rmX_read [.ref (Ax 0)] ((WX Γ Ax Ac Ad Ai Aj At Ab Aq Af xik xns xng xnn xbc xnc xfc) ++ ((WC Γ Ac csw cca csi cab cun csg cfa che cst) ++ ((WC Γ Ad dsw dca dsi dab dun dsg dfa dhe dst) ++ ((WC Γ Ai isw ica isi iab iun isg ifa ihe ist) ++ ((WC Γ Aj jsw jca jsi jab jun jsg jfa jhe jst) ++ ((WT Γ At tby tnu tln tat tsr ttk tnm tit tft) ++ ((WB Γ Ab blo bwh bow bom) ++ ((WQ Γ Aq qhe qbi qhv qwo qts qbb qbc qbw) ++ (WF Γ Af fab fbe))))))))) ((WX Γ Ax Ac Ad Ai Aj At Ab Aq Af xik xns xng xnn xbc xnc xfc) ++ ((WC Γ Ac csw_z cca_z csi_z cab_z cun_z csg_z cfa_z che_z cst_z) ++ ((WC Γ Ad dsw_z dca_z dsi_z dab_z dun_z dsg_z dfa_z dhe_z dst) ++ ((WC Γ Ai isw ica isi iab iun isg ifa ihe ist) ++ ((WC Γ Aj jsw jca jsi jab jun jsg jfa jhe jst) ++ ((WT Γ At tby tnu_z tln tat_z tsr_z ttk_z tnm_z tit_z tft_z) ++ ((WB Γ Ab blo bwh bow bom) ++ ((WQ Γ Aq qhe qbi qhv qwo qts qbb qbc qbw) ++ (WF Γ Af fab fbe))))))))) r0 := ofBody (Qc := QcI Γ _ _ r0) (by decide) (Nat.le_of_ble_eq_true rfl) (fun p e s m below meth c ls _ X Y hl => bX_read_e X h Y hl)
end
