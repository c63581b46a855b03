section
variable {p : Program} {l : Launch} {e : Env} {R : Room} {s : State} {m : MethodId} {args : Array Value} {below : List Frame} {meth : Method} {c : Code} {H : Heap} {locs : List Loc} {Q : State → Prop} {cells slots : Nat}
variable {Γ : Gm} {own : String} {cc : ByteArray} {nL : Nat} {ret : Option FieldType} {w0 ws ws' : va_W} {pc : Nat} {ls : Array Slot} {rest : List Value} {a : Nat}
theorem gfX11_33 (X : Cx Γ p s m args meth c RX11 cc nL ret w0) (Y : Wd Γ w0 s ws H locs) {v : Value} (q0 : Nat) {fs : List Value} (he : ws[q0]? = some (a, .inr (11, fs))) (hv : fs[5]? = some v) (hdg : decode cc pc = .ok (.getfield 33, 3)) (kk : W p l e R s m args below meth c H locs cells slots Q (F0 m (pc + 3) ls (v :: rest))) : W p l e R s m args below meth c H locs cells slots Q (F0 m pc ls (.ref a :: rest)) := x_get X Y iX11 rfl 5 (by decide) rfl kw537 q0 he hv hdg kk
theorem dmX0_madeGoodOfV : yX0_madeGoodOf.cls = RX0 ∧ yX0_madeGoodOf.cls ≠ "java/lang/invoke/MethodHandle" ∧ yX0_madeGoodOf.cls ≠ "java/lang/invoke/VarHandle" ∧ (parseMethodDescriptor yX0_madeGoodOf.desc).map (fun d => d.parameters.length) = some 2 := by decide +kernel
theorem cwX11_136 (X : Cx Γ p s m args meth c RX11 cc nL ret w0) (hR : rmB_madeGoodOf.frames + 1 ≤ R.frames ∧ 8 + (3 + 11) + rmB_madeGoodOf.locals ≤ R.locals) : CallW R s args RX11 RX0 136 yX0_madeGoodOf cX0_madeGoodOf 3 (some .int) (Cond.code yX0_madeGoodOf cX0_madeGoodOf 3 (some .int) :: GW) rmB_madeGoodOf 0 0 2 := cw_V X kw538 kw539 kw540 kw333 kw541 dmX0_madeGoodOfV rfl rfl hR
theorem cwX11_132 (X : Cx Γ p s m args meth c RX11 cc nL ret w0) (hR : rmC_heave.frames + 1 ≤ R.frames ∧ 8 + (2 + 11) + rmC_heave.locals ≤ R.locals) : CallW R s args RX11 RX1 132 yX1_heave cX1_heave 2 none (Cond.code yX1_heave cX1_heave 2 none :: GW) rmC_heave 0 0 1 := cw_V X kw542 kw450 kw451 kw228 kw452 dmX1_heaveV rfl rfl hR
theorem cwX11_128 (X : Cx Γ p s m args meth c RX11 cc nL ret w0) (hR : rmC_isTop.frames + 1 ≤ R.frames ∧ 8 + (4 + 11) + rmC_isTop.locals ≤ R.locals) : CallW R s args RX11 RX1 128 yX1_isTop cX1_isTop 4 (some .boolean) (Cond.code yX1_isTop cX1_isTop 4 (some .boolean) :: GW) rmC_isTop 0 0 2 := cw_V X kw543 kw249 kw250 kw228 kw251 dmX1_isTopV rfl rfl hR
def rmX_over : Room := { frames := 4, cells := 0, slots := 0, locals := 89 }
def X_over (x1 : Int32) (xbc : Int32) (xnc : Int32) (xfc : Int32) (csi : Int32) (cab : Int32) (cun : Int32) (cfa : Nat → Int32) (che : Nat → Int32) : Option (Int32 × Int32 × Int32 × Int32 × Int32 × Int32 × (Nat → Int32)) := bd1 (C_has x1 csi) (fun (r_1 : Int32) => if r_1 = 0 then (bd4 (X_refuse (-2 : Int32) xbc xnc xfc) (fun (r_17 : Int32) (xbc_18 : Int32) (xnc_19 : Int32) (xfc_20 : Int32) => some (r_17, xbc_18, xnc_19, xfc_20, cab, cun, che))) else (bd1 (C_isTop x1 cab csi cfa) (fun (r_3 : Int32) => if r_3 = 0 then (bd4 (X_refuse (-3 : Int32) xbc xnc xfc) (fun (r_11 : Int32) (xbc_12 : Int32) (xnc_13 : Int32) (xfc_14 : Int32) => some (r_11, xbc_12, xnc_13, xfc_14, cab, cun, che))) else (bd3 (C_heave x1 csi cab cun che) (fun (cab_5 : Int32) (cun_6 : Int32) (che_7 : Nat → Int32) => bd1 (B_madeGoodOf x1 csi cfa) (fun (r_8 : Int32) => some (r_8, xbc, xnc, xfc, cab_5, cun_6, che_7)))))))
set_option maxHeartbeats 4000000 in
set_option maxRecDepth 100000 in
theorem bX_over_e {Ax : Nat → Nat} {Ac : Nat → Nat} {Ad : Nat → Nat} {Ai : Nat → Nat} {Aj : Nat → Nat} {At : Nat → Nat} {Ab : Nat → Nat} {Aq : Nat → Nat} {Af : Nat → Nat} {xik : Int32} {xns : Nat → Int32} {xng : Nat → Int32} {xnn : Nat → Int32} {xbc : Int32} {xnc : Int32} {xfc : Int32} {csw : Int32} {cca : Int32} {csi : Int32} {cab : Int32} {cun : Int32} {csg : Int32} {cfa : Nat → Int32} {che : Nat → Int32} {cst : Nat → Int32} {dsw : Int32} {dca : Int32} {dsi : Int32} {dab : Int32} {dun : Int32} {dsg : Int32} {dfa : Nat → Int32} {dhe : Nat → Int32} {dst : Nat → Int32} {isw : Int32} {ica : Int32} {isi : Int32} {iab : Int32} {iun : Int32} {isg : Int32} {ifa : Nat → Int32} {ihe : Nat → Int32} {ist : Nat → Int32} {jsw : Int32} {jca : Int32} {jsi : Int32} {jab : Int32} {jun : Int32} {jsg : Int32} {jfa : Nat → Int32} {jhe : Nat → Int32} {jst : Nat → Int32} {tby : Nat → Int32} {tnu : Nat → Int32} {tln : Int32} {tat : Int32} {tsr : Int32} {ttk : Int32} {tnm : Int32} {tit : Int32} {tft : Int32} {blo : Int32} {bwh : Int32} {bow : Int32} {bom : Int32} {qhe : Nat → Int32} {qbi : Nat → Int32} {qhv : Nat → Int32} {qwo : Nat → Int32} {qts : Int32} {qbb : Int32} {qbc : Int32} {qbw : Int32} {fab : Int64} {fbe : Int64} {xbc_z : Int32} {xnc_z : Int32} {xfc_z : Int32} {cab_z : Int32} {cun_z : Int32} {che_z : Nat → Int32} {r0 : Int32} {x1 : Int32} (X : Cx Γ p s m args meth c RX11 cX11_over 2 (some .int) w0) (hf : X_over x1 xbc xnc xfc csi cab cun cfa che = some (r0, xbc_z, xnc_z, xfc_z, cab_z, cun_z, che_z)) (Y : Wd Γ w0 s ((WX Γ Ax Ac Ad Ai Aj At Ab Aq Af xik xns xng xnn xbc xnc xfc) ++ ((WC Γ Ac csw cca csi cab cun csg cfa che cst) ++ ((WC Γ Ad dsw dca dsi dab dun dsg dfa dhe dst) ++ ((WC Γ Ai isw ica isi iab iun isg ifa ihe ist) ++ ((WC Γ Aj jsw jca jsi jab jun jsg jfa jhe jst) ++ ((WT Γ At tby tnu tln tat tsr ttk tnm tit tft) ++ ((WB Γ Ab blo bwh bow bom) ++ ((WQ Γ Aq qhe qbi qhv qwo qts qbb qbc qbw) ++ (WF Γ Af fab fbe))))))))) H locs) (hl : lv_has ls 2 [(0, .ref (Ax 0)), (1, .int x1)]) : W p l e rmX_over s m args below meth c H locs 0 0 (EI Γ below args s w0 ((WX Γ Ax Ac Ad Ai Aj At Ab Aq Af xik xns xng xnn xbc_z xnc_z xfc_z) ++ ((WC Γ Ac csw cca csi cab_z cun_z csg cfa che_z cst) ++ ((WC Γ Ad dsw dca dsi dab dun dsg dfa dhe dst) ++ ((WC Γ Ai isw ica isi iab iun isg ifa ihe ist) ++ ((WC Γ Aj jsw jca jsi jab jun jsg jfa jhe jst) ++ ((WT Γ At tby tnu tln tat tsr ttk tnm tit tft) ++ ((WB Γ Ab blo bwh bow bom) ++ ((WQ Γ Aq qhe qbi qhv qwo qts qbb qbc qbw) ++ (WF Γ Af fab fbe))))))))) r0) (F0 m 0 ls []) := by
  have hx := X.1
  have hb := X.2.1
  refine lv_aload_n hx hb dX11_over_0 rfl (lv_at hl 0 rfl) ?_
  refine gfX11_10 X Y (v := .ref (Ac 0)) 0 rfl rfl dX11_over_1 ?_
  refine lv_iload_n hx hb dX11_over_4 rfl (lv_at hl 1 rfl) ?_
  obtain ⟨r_1, ho_22, hf⟩ := bd1_some hf
  refine t_i Y (bkE Y [5, 6, 7, 8] rfl) (r_V (As := [.int x1]) (rest := []) X (c_pre X Y [5, 6, 7, 8] rfl rfl) (cC_has ho_22) (cwX11_93 X (by decide)) (va_recv X.K Y.1 (q := (RX1, TX1, 9)) (q0 := 5) (ci := 1) rfl rfl) rfl hl.1 (Nat.le_of_ble_eq_true rfl) rfl dX11_over_5 ⟨Nat.zero_le _, Nat.zero_le _⟩) (fun H locs Y => ?_)
  refine lv_if_ne (tgt := 18) hx hb dX11_over_8 (by decide) (fun c_2 => ?_) (fun c_2 => ?_)
  · have hf := ite_f hf c_2
    refine lv_aload_n hx hb dX11_over_18 rfl (lv_at hl 0 rfl) ?_
    refine gfX11_10 X Y (v := .ref (Ac 0)) 0 rfl rfl dX11_over_19 ?_
    refine lv_iload_n hx hb dX11_over_22 rfl (lv_at hl 1 rfl) ?_
    refine lv_aload_n hx hb dX11_over_23 rfl (lv_at hl 0 rfl) ?_
    refine gfX11_10 X Y (v := .ref (Ac 0)) 0 rfl rfl dX11_over_24 ?_
    refine gfX11_125 X Y (v := .int cab) 5 rfl rfl dX11_over_27 ?_
    obtain ⟨r_3, ho_16, hf⟩ := bd1_some hf
    refine t_i Y (bkE Y [5, 6, 7, 8] rfl) (r_V (As := [.int x1, .int cab]) (rest := []) X (c_pre X Y [5, 6, 7, 8] rfl rfl) (cC_isTop ho_16) (cwX11_128 X (by decide)) (va_recv X.K Y.1 (q := (RX1, TX1, 9)) (q0 := 5) (ci := 1) rfl rfl) rfl hl.1 (Nat.le_of_ble_eq_true rfl) rfl dX11_over_30 ⟨Nat.zero_le _, Nat.zero_le _⟩) (fun H locs Y => ?_)
    refine lv_if_ne (tgt := 43) hx hb dX11_over_33 (by decide) (fun c_4 => ?_) (fun c_4 => ?_)
    · have hf := ite_f hf c_4
      refine lv_aload_n hx hb dX11_over_43 rfl (lv_at hl 0 rfl) ?_
      refine gfX11_10 X Y (v := .ref (Ac 0)) 0 rfl rfl dX11_over_44 ?_
      refine lv_iload_n hx hb dX11_over_47 rfl (lv_at hl 1 rfl) ?_
      obtain ⟨cab_5, cun_6, che_7, ho_10, hf⟩ := bd3_some hf
      refine t_v Y (bk Y [5, 6, 7, 8] [0, 1, 2, 3, 4, 9, 10, 11, 12, 13, 14, 15, 16, 17, 18, 19, 20, 21, 22, 23, 24, 25, 26, 27, 28, 29, 30, 31, 32, 33, 34, 35, 36, 37] [0, 1, 2, 3, 4, 34, 35, 36, 37, 5, 6, 7, 8, 9, 10, 11, 12, 13, 14, 15, 16, 17, 18, 19, 20, 21, 22, 23, 24, 25, 26, 27, 28, 29, 30, 31, 32, 33] (wr := [(Ax 0, .inr (11, [.ref (Ac 0), .ref (Ad 0), .ref (Ax 1), .int xik, .ref (At 0), .ref (Ab 0), .ref (Aq 0), .ref (Af 0), .ref (Ax 2), .ref (Ax 3), .ref (Ax 4), .int xbc, .int xnc, .int xfc])), (Ax 1, .inl (Γ.2.1 4, 2, .inr (.inr (.inr (.inr (fun j => some (if j = 0 then Ai 0 else Aj 0))))))), (Ax 2, .inl (Γ.2.1 0, 2, .inl xns)), (Ax 3, .inl (Γ.2.1 0, 6, .inl xng)), (Ax 4, .inl (Γ.2.1 0, 3, .inl xnn)), (Ad 0, .inr (1, [.int dsw, .int dca, .int dsi, .int dab, .int dun, .int dsg, .ref (Ad 1), .ref (Ad 2), .ref (Ad 3)])), (Ad 1, .inl (Γ.2.1 0, 48, .inl dfa)), (Ad 2, .inl (Γ.2.1 0, 8, .inl dhe)), (Ad 3, .inl (Γ.2.1 0, 18, .inl dst)), (Ai 0, .inr (1, [.int isw, .int ica, .int isi, .int iab, .int iun, .int isg, .ref (Ai 1), .ref (Ai 2), .ref (Ai 3)])), (Ai 1, .inl (Γ.2.1 0, 48, .inl ifa)), (Ai 2, .inl (Γ.2.1 0, 8, .inl ihe)), (Ai 3, .inl (Γ.2.1 0, 18, .inl ist)), (Aj 0, .inr (1, [.int jsw, .int jca, .int jsi, .int jab, .int jun, .int jsg, .ref (Aj 1), .ref (Aj 2), .ref (Aj 3)])), (Aj 1, .inl (Γ.2.1 0, 48, .inl jfa)), (Aj 2, .inl (Γ.2.1 0, 8, .inl jhe)), (Aj 3, .inl (Γ.2.1 0, 18, .inl jst)), (At 0, .inr (10, [.ref (At 1), .ref (At 2), .int tln, .int tat, .int tsr, .int ttk, .int tnm, .int tit, .int tft])), (At 1, .inl (Γ.2.1 1, 150, .inl tby)), (At 2, .inl (Γ.2.1 0, 6, .inl tnu)), (Ab 0, .inr (0, [.ref (Ab 1), .int blo, .int bwh, .int bow, .int bom])), (Ab 1, .inl (Γ.2.1 3, 6, .inr (.inr (.inr (.inr (fun j => some (Ab (2 + j)))))))), (Ab 2, .inr (8, [])), (Ab 3, .inr (2, [])), (Ab 4, .inr (5, [])), (Ab 5, .inr (9, [])), (Ab 6, .inr (7, [])), (Ab 7, .inr (4, [])), (Aq 0, .inr (6, [.ref (Aq 1), .ref (Aq 2), .ref (Aq 3), .ref (Aq 4), .int qts, .int qbb, .int qbc, .int qbw])), (Aq 1, .inl (Γ.2.1 0, 3, .inl qhe)), (Aq 2, .inl (Γ.2.1 0, 27, .inl qbi)), (Aq 3, .inl (Γ.2.1 0, 27, .inl qhv)), (Aq 4, .inl (Γ.2.1 0, 27, .inl qwo)), (Af 0, .inr (3, [.long fab, .long fbe]))]) (ws' := ((WX Γ Ax Ac Ad Ai Aj At Ab Aq Af xik xns xng xnn xbc xnc xfc) ++ ((WC Γ Ac csw cca csi cab_5 cun_6 csg cfa che_7 cst) ++ ((WC Γ Ad dsw dca dsi dab dun dsg dfa dhe dst) ++ ((WC Γ Ai isw ica isi iab iun isg ifa ihe ist) ++ ((WC Γ Aj jsw jca jsi jab jun jsg jfa jhe jst) ++ ((WT Γ At tby tnu tln tat tsr ttk tnm tit tft) ++ ((WB Γ Ab blo bwh bow bom) ++ ((WQ Γ Aq qhe qbi qhv qwo qts qbb qbc qbw) ++ (WF Γ Af fab fbe)))))))))) rfl rfl rfl (by decide) rfl rfl) (r_V (As := [.int x1]) (rest := []) X (c_pre X Y [5, 6, 7, 8] rfl rfl) (cC_heave ho_10) (cwX11_132 X (by decide)) (va_recv X.K Y.1 (q := (RX1, TX1, 9)) (q0 := 5) (ci := 1) rfl rfl) rfl hl.1 (Nat.le_of_ble_eq_true rfl) rfl dX11_over_48 ⟨Nat.zero_le _, Nat.zero_le _⟩) (fun H locs Y => ?_)
      refine lv_aload_n hx hb dX11_over_51 rfl (lv_at hl 0 rfl) ?_
      refine gfX11_33 X Y (v := .ref (Ab 0)) 0 rfl rfl dX11_over_52 ?_
      refine lv_aload_n hx hb dX11_over_55 rfl (lv_at hl 0 rfl) ?_
      refine gfX11_10 X Y (v := .ref (Ac 0)) 0 rfl rfl dX11_over_56 ?_
      refine lv_iload_n hx hb dX11_over_59 rfl (lv_at hl 1 rfl) ?_
      obtain ⟨r_8, ho_9, hf⟩ := bd1_some hf
      refine t_i Y (bkE Y [24, 25, 26, 27, 28, 29, 30, 31, 5, 6, 7, 8] rfl) (r_V (As := [.ref (Ac 0), .int x1]) (rest := []) X (c_pre X Y [24, 25, 26, 27, 28, 29, 30, 31, 5, 6, 7, 8] rfl rfl) (cB_madeGoodOf ho_9) (cwX11_136 X (by decide)) (va_recv X.K Y.1 (q := (RX0, TX0, 5)) (q0 := 24) (ci := 0) rfl rfl) rfl hl.1 (Nat.le_of_ble_eq_true rfl) rfl dX11_over_60 ⟨Nat.zero_le _, Nat.zero_le _⟩) (fun H locs Y => ?_)
      obtain ⟨e90, e91, e92, e93, e94, e95, e96⟩ := sj7 hf
      subst e90
      subst e91
      subst e92
      subst e93
      subst e94
      subst e95
      subst e96
      exact x_iret X Y dX11_over_63
    · have hf := ite_t hf c_4
      refine lv_aload_n hx hb dX11_over_36 rfl (lv_at hl 0 rfl) ?_
      refine lv_bipush (v := (-3 : Int32)) hx hb dX11_over_37 (by decide) ?_
      obtain ⟨r_11, xbc_12, xnc_13, xfc_14, ho_15, hf⟩ := bd4_some hf
      refine t_i Y (bkS Y) (r_V (As := [.int (-3 : Int32)]) (rest := []) X (c_preS X Y) (cX_refuse ho_15) (cwX11_71 X (by decide)) (va_recv X.K Y.1 (q := (RX11, TX11, 14)) (q0 := 0) (ci := 11) rfl rfl) rfl hl.1 (Nat.le_of_ble_eq_true rfl) rfl dX11_over_39 ⟨Nat.zero_le _, Nat.zero_le _⟩) (fun H locs Y => ?_)
      obtain ⟨e90, e91, e92, e93, e94, e95, e96⟩ := sj7 hf
      subst e90
      subst e91
      subst e92
      subst e93
      subst e94
      subst e95
      subst e96
      exact x_iret X Y dX11_over_42
  · have hf := ite_t hf c_2
    refine lv_aload_n hx hb dX11_over_11 rfl (lv_at hl 0 rfl) ?_
    refine lv_bipush (v := (-2 : Int32)) hx hb dX11_over_12 (by decide) ?_
    obtain ⟨r_17, xbc_18, xnc_19, xfc_20, ho_21, hf⟩ := bd4_some hf
    refine t_i Y (bkS Y) (r_V (As := [.int (-2 : Int32)]) (rest := []) X (c_preS X Y) (cX_refuse ho_21) (cwX11_71 X (by decide)) (va_recv X.K Y.1 (q := (RX11, TX11, 14)) (q0 := 0) (ci := 11) rfl rfl) rfl hl.1 (Nat.le_of_ble_eq_true rfl) rfl dX11_over_14 ⟨Nat.zero_le _, Nat.zero_le _⟩) (fun H locs Y => ?_)
    obtain ⟨e90, e91, e92, e93, e94, e95, e96⟩ := sj7 hf
    subst e90
    subst e91
    subst e92
    subst e93
    subst e94
    subst e95
    subst e96
    exact x_iret X Y dX11_over_17
theorem cX_over {l : Launch} {Γ : Gm} {Ax : Nat → Nat} {Ac : Nat → Nat} {Ad : Nat → Nat} {Ai : Nat → Nat} {Aj : Nat → Nat} {At : Nat → Nat} {Ab : Nat → Nat} {Aq : Nat → Nat} {Af : Nat → Nat} {xik : Int32} {xns : Nat → Int32} {xng : Nat → Int32} {xnn : Nat → Int32} {xbc : Int32} {xnc : Int32} {xfc : Int32} {csw : Int32} {cca : Int32} {csi : Int32} {cab : Int32} {cun : Int32} {csg : Int32} {cfa : Nat → Int32} {che : Nat → Int32} {cst : Nat → Int32} {dsw : Int32} {dca : Int32} {dsi : Int32} {dab : Int32} {dun : Int32} {dsg : Int32} {dfa : Nat → Int32} {dhe : Nat → Int32} {dst : Nat → Int32} {isw : Int32} {ica : Int32} {isi : Int32} {iab : Int32} {iun : Int32} {isg : Int32} {ifa : Nat → Int32} {ihe : Nat → Int32} {ist : Nat → Int32} {jsw : Int32} {jca : Int32} {jsi : Int32} {jab : Int32} {jun : Int32} {jsg : Int32} {jfa : Nat → Int32} {jhe : Nat → Int32} {jst : Nat → Int32} {tby : Nat → Int32} {tnu : Nat → Int32} {tln : Int32} {tat : Int32} {tsr : Int32} {ttk : Int32} {tnm : Int32} {tit : Int32} {tft : Int32} {blo : Int32} {bwh : Int32} {bow : Int32} {bom : Int32} {qhe : Nat → Int32} {qbi : Nat → Int32} {qhv : Nat → Int32} {qwo : Nat → Int32} {qts : Int32} {qbb : Int32} {qbc : Int32} {qbw : Int32} {fab : Int64} {fbe : Int64} {xbc_z : Int32} {xnc_z : Int32} {xfc_z : Int32} {cab_z : Int32} {cun_z : Int32} {che_z : Nat → Int32} {r0 : Int32} {x1 : Int32} (h : X_over x1 xbc xnc xfc csi cab cun cfa che = some (r0, xbc_z, xnc_z, xfc_z, cab_z, cun_z, che_z)) : CI l Γ yX11_over (Cond.code yX11_over cX11_over 2 (some .int) :: GW) rmX_over [.ref (Ax 0), .int x1] ((WX Γ Ax Ac Ad Ai Aj At Ab Aq Af xik xns xng xnn xbc xnc xfc) ++ ((WC Γ Ac csw cca csi cab cun csg cfa che cst) ++ ((WC Γ Ad dsw dca dsi dab dun dsg dfa dhe dst) ++ ((WC Γ Ai isw ica isi iab iun isg ifa ihe ist) ++ ((WC Γ Aj jsw jca jsi jab jun jsg jfa jhe jst) ++ ((WT Γ At tby tnu tln tat tsr ttk tnm tit tft) ++ ((WB Γ Ab blo bwh bow bom) ++ ((WQ Γ Aq qhe qbi qhv qwo qts qbb qbc qbw) ++ (WF Γ Af fab fbe))))))))) ((WX Γ Ax Ac Ad Ai Aj At Ab Aq Af xik xns xng xnn xbc_z xnc_z xfc_z) ++ ((WC Γ Ac csw cca csi cab_z cun_z csg cfa che_z cst) ++ ((WC Γ Ad dsw dca dsi dab dun dsg dfa dhe dst) ++ ((WC Γ Ai isw ica isi iab iun isg ifa ihe ist) ++ ((WC Γ Aj jsw jca jsi jab jun jsg jfa jhe jst) ++ ((WT Γ At tby tnu tln tat tsr ttk tnm tit tft) ++ ((WB Γ Ab blo bwh bow bom) ++ ((WQ Γ Aq qhe qbi qhv qwo qts qbb qbc qbw) ++ (WF Γ Af fab fbe))))))))) r0 := ofBody (Qc := QcI Γ _ _ r0) (by decide) (Nat.le_of_ble_eq_true rfl) (fun p e s m below meth c ls _ X Y hl => bX_over_e X h Y hl)
theorem dmX1_takeBackV : yX1_takeBack.cls = RX1 ∧ yX1_takeBack.cls ≠ "java/lang/invoke/MethodHandle" ∧ yX1_takeBack.cls ≠ "java/lang/invoke/VarHandle" ∧ (parseMethodDescriptor yX1_takeBack.desc).map (fun d => d.parameters.length) = some 0 := by decide +kernel
theorem cwX11_140 (X : Cx Γ p s m args meth c RX11 cc nL ret w0) (hR : rmC_takeBack.frames + 1 ≤ R.frames ∧ 8 + (1 + 11) + rmC_takeBack.locals ≤ R.locals) : CallW R s args RX11 RX1 140 yX1_takeBack cX1_takeBack 1 (some .boolean) (Cond.code yX1_takeBack cX1_takeBack 1 (some .boolean) :: GW) rmC_takeBack 0 0 0 := cw_V X kw544 kw545 kw546 kw228 kw547 dmX1_takeBackV rfl rfl hR
def rmX_undo : Room := { frames := 2, cells := 0, slots := 0, locals := 42 }
def X_undo (xbc : Int32) (xnc : Int32) (xfc : Int32) (cab : Int32) (cun : Int32) (che : Nat → Int32) : Option (Int32 × Int32 × Int32 × Int32 × Int32 × Int32) := bd3 (C_takeBack cab cun che) (fun (r_1 : Int32) (cab_2 : Int32) (cun_3 : Int32) => if r_1 = 0 then (bd4 (X_refuse (-3 : Int32) xbc xnc xfc) (fun (r_5 : Int32) (xbc_6 : Int32) (xnc_7 : Int32) (xfc_8 : Int32) => some (r_5, xbc_6, xnc_7, xfc_8, cab_2, cun_3))) else (bd1 (J_bitCount cab_2) (fun (r_10 : Int32) => some (r_10, xbc, xnc, xfc, cab_2, cun_3))))
set_option maxHeartbeats 4000000 in
set_option maxRecDepth 100000 in
theorem bX_undo_e {Ax : Nat → Nat} {Ac : Nat → Nat} {Ad : Nat → Nat} {Ai : Nat → Nat} {Aj : Nat → Nat} {At : Nat → Nat} {Ab : Nat → Nat} {Aq : Nat → Nat} {Af : Nat → Nat} {xik : Int32} {xns : Nat → Int32} {xng : Nat → Int32} {xnn : Nat → Int32} {xbc : Int32} {xnc : Int32} {xfc : Int32} {csw : Int32} {cca : Int32} {csi : Int32} {cab : Int32} {cun : Int32} {csg : Int32} {cfa : Nat → Int32} {che : Nat → Int32} {cst : Nat → Int32} {dsw : Int32} {dca : Int32} {dsi : Int32} {dab : Int32} {dun : Int32} {dsg : Int32} {dfa : Nat → Int32} {dhe : Nat → Int32} {dst : Nat → Int32} {isw : Int32} {ica : Int32} {isi : Int32} {iab : Int32} {iun : Int32} {isg : Int32} {ifa : Nat → Int32} {ihe : Nat → Int32} {ist : Nat → Int32} {jsw : Int32} {jca : Int32} {jsi : Int32} {jab : Int32} {jun : Int32} {jsg : Int32} {jfa : Nat → Int32} {jhe : Nat → Int32} {jst : Nat → Int32} {tby : Nat → Int32} {tnu : Nat → Int32} {tln : Int32} {tat : Int32} {tsr : Int32} {ttk : Int32} {tnm : Int32} {tit : Int32} {tft : Int32} {blo : Int32} {bwh : Int32} {bow : Int32} {bom : Int32} {qhe : Nat → Int32} {qbi : Nat → Int32} {qhv : Nat → Int32} {qwo : Nat → Int32} {qts : Int32} {qbb : Int32} {qbc : Int32} {qbw : Int32} {fab : Int64} {fbe : Int64} {xbc_z : Int32} {xnc_z : Int32} {xfc_z : Int32} {cab_z : Int32} {cun_z : Int32} {r0 : Int32} (X : Cx Γ p s m args meth c RX11 cX11_undo 1 (some .int) w0) (hf : X_undo xbc xnc xfc cab cun che = some (r0, xbc_z, xnc_z, xfc_z, cab_z, cun_z)) (Y : Wd Γ w0 s ((WX Γ Ax Ac Ad Ai Aj At Ab Aq Af xik xns xng xnn xbc xnc xfc) ++ ((WC Γ Ac csw cca csi cab cun csg cfa che cst) ++ ((WC Γ Ad dsw dca dsi dab dun dsg dfa dhe dst) ++ ((WC Γ Ai isw ica isi iab iun isg ifa ihe ist) ++ ((WC Γ Aj jsw jca jsi jab jun jsg jfa jhe jst) ++ ((WT Γ At tby tnu tln tat tsr ttk tnm tit tft) ++ ((WB Γ Ab blo bwh bow bom) ++ ((WQ Γ Aq qhe qbi qhv qwo qts qbb qbc qbw) ++ (WF Γ Af fab fbe))))))))) H locs) (hl : lv_has ls 1 [(0, .ref (Ax 0))]) : W p l e rmX_undo s m args below meth c H locs 0 0 (EI Γ below args s w0 ((WX Γ Ax Ac Ad Ai Aj At Ab Aq Af xik xns xng xnn xbc_z xnc_z xfc_z) ++ ((WC Γ Ac csw cca csi cab_z cun_z csg cfa che cst) ++ ((WC Γ Ad dsw dca dsi dab dun dsg dfa dhe dst) ++ ((WC Γ Ai isw ica isi iab iun isg ifa ihe ist) ++ ((WC Γ Aj jsw jca jsi jab jun jsg jfa jhe jst) ++ ((WT Γ At tby tnu tln tat tsr ttk tnm tit tft) ++ ((WB Γ Ab blo bwh bow bom) ++ ((WQ Γ Aq qhe qbi qhv qwo qts qbb qbc qbw) ++ (WF Γ Af fab fbe))))))))) r0) (F0 m 0 ls []) := by
  have hx := X.1
  have hb := X.2.1
  refine lv_aload_n hx hb dX11_undo_0 rfl (lv_at hl 0 rfl) ?_
  refine gfX11_10 X Y (v := .ref (Ac 0)) 0 rfl rfl dX11_undo_1 ?_
  obtain ⟨r_1, cab_2, cun_3, ho_12, hf⟩ := bd3_some hf
  refine t_i Y (bk Y [5, 6, 7, 8] [0, 1, 2, 3, 4, 9, 10, 11, 12, 13, 14, 15, 16, 17, 18, 19, 20, 21, 22, 23, 24, 25, 26, 27, 28, 29, 30, 31, 32, 33, 34, 35, 36, 37] [0, 1, 2, 3, 4, 34, 35, 36, 37, 5, 6, 7, 8, 9, 10, 11, 12, 13, 14, 15, 16, 17, 18, 19, 20, 21, 22, 23, 24, 25, 26, 27, 28, 29, 30, 31, 32, 33] (wr := [(Ax 0, .inr (11, [.ref (Ac 0), .ref (Ad 0), .ref (Ax 1), .int xik, .ref (At 0), .ref (Ab 0), .ref (Aq 0), .ref (Af 0), .ref (Ax 2), .ref (Ax 3), .ref (Ax 4), .int xbc, .int xnc, .int xfc])), (Ax 1, .inl (Γ.2.1 4, 2, .inr (.inr (.inr (.inr (fun j => some (if j = 0 then Ai 0 else Aj 0))))))), (Ax 2, .inl (Γ.2.1 0, 2, .inl xns)), (Ax 3, .inl (Γ.2.1 0, 6, .inl xng)), (Ax 4, .inl (Γ.2.1 0, 3, .inl xnn)), (Ad 0, .inr (1, [.int dsw, .int dca, .int dsi, .int dab, .int dun, .int dsg, .ref (Ad 1), .ref (Ad 2), .ref (Ad 3)])), (Ad 1, .inl (Γ.2.1 0, 48, .inl dfa)), (Ad 2, .inl (Γ.2.1 0, 8, .inl dhe)), (Ad 3, .inl (Γ.2.1 0, 18, .inl dst)), (Ai 0, .inr (1, [.int isw, .int ica, .int isi, .int iab, .int iun, .int isg, .ref (Ai 1), .ref (Ai 2), .ref (Ai 3)])), (Ai 1, .inl (Γ.2.1 0, 48, .inl ifa)), (Ai 2, .inl (Γ.2.1 0, 8, .inl ihe)), (Ai 3, .inl (Γ.2.1 0, 18, .inl ist)), (Aj 0, .inr (1, [.int jsw, .int jca, .int jsi, .int jab, .int jun, .int jsg, .ref (Aj 1), .ref (Aj 2), .ref (Aj 3)])), (Aj 1, .inl (Γ.2.1 0, 48, .inl jfa)), (Aj 2, .inl (Γ.2.1 0, 8, .inl jhe)), (Aj 3, .inl (Γ.2.1 0, 18, .inl jst)), (At 0, .inr (10, [.ref (At 1), .ref (At 2), .int tln, .int tat, .int tsr, .int ttk, .int tnm, .int tit, .int tft])), (At 1, .inl (Γ.2.1 1, 150, .inl tby)), (At 2, .inl (Γ.2.1 0, 6, .inl tnu)), (Ab 0, .inr (0, [.ref (Ab 1), .int blo, .int bwh, .int bow, .int bom])), (Ab 1, .inl (Γ.2.1 3, 6, .inr (.inr (.inr (.inr (fun j => some (Ab (2 + j)))))))), (Ab 2, .inr (8, [])), (Ab 3, .inr (2, [])), (Ab 4, .inr (5, [])), (Ab 5, .inr (9, [])), (Ab 6, .inr (7, [])), (Ab 7, .inr (4, [])), (Aq 0, .inr (6, [.ref (Aq 1), .ref (Aq 2), .ref (Aq 3), .ref (Aq 4), .int qts, .int qbb, .int qbc, .int qbw])), (Aq 1, .inl (Γ.2.1 0, 3, .inl qhe)), (Aq 2, .inl (Γ.2.1 0, 27, .inl qbi)), (Aq 3, .inl (Γ.2.1 0, 27, .inl qhv)), (Aq 4, .inl (Γ.2.1 0, 27, .inl qwo)), (Af 0, .inr (3, [.long fab, .long fbe]))]) (ws' := ((WX Γ Ax Ac Ad Ai Aj At Ab Aq Af xik xns xng xnn xbc xnc xfc) ++ ((WC Γ Ac csw cca csi cab_2 cun_3 csg cfa che cst) ++ ((WC Γ Ad dsw dca dsi dab dun dsg dfa dhe dst) ++ ((WC Γ Ai isw ica isi iab iun isg ifa ihe ist) ++ ((WC Γ Aj jsw jca jsi jab jun jsg jfa jhe jst) ++ ((WT Γ At tby tnu tln tat tsr ttk tnm tit tft) ++ ((WB Γ Ab blo bwh bow bom) ++ ((WQ Γ Aq qhe qbi qhv qwo qts qbb qbc qbw) ++ (WF Γ Af fab fbe)))))))))) rfl rfl rfl (by decide) rfl rfl) (r_V (As := []) (rest := []) X (c_pre X Y [5, 6, 7, 8] rfl rfl) (cC_takeBack ho_12) (cwX11_140 X (by decide)) (va_recv X.K Y.1 (q := (RX1, TX1, 9)) (q0 := 5) (ci := 1) rfl rfl) rfl hl.1 (Nat.le_of_ble_eq_true rfl) rfl dX11_undo_4 ⟨Nat.zero_le _, Nat.zero_le _⟩) (fun H locs Y => ?_)
  refine lv_if_eq (tgt := 23) hx hb dX11_undo_7 (by decide) (fun c_4 => ?_) (fun c_4 => ?_)
  · have hf := ite_t hf c_4
    refine lv_aload_n hx hb dX11_undo_23 rfl (lv_at hl 0 rfl) ?_
    refine lv_bipush (v := (-3 : Int32)) hx hb dX11_undo_24 (by decide) ?_
    obtain ⟨r_5, xbc_6, xnc_7, xfc_8, ho_9, hf⟩ := bd4_some hf
    refine t_i Y (bkS Y) (r_V (As := [.int (-3 : Int32)]) (rest := []) X (c_preS X Y) (cX_refuse ho_9) (cwX11_71 X (by decide)) (va_recv X.K Y.1 (q := (RX11, TX11, 14)) (q0 := 0) (ci := 11) rfl rfl) rfl hl.1 (Nat.le_of_ble_eq_true rfl) rfl dX11_undo_26 ⟨Nat.zero_le _, Nat.zero_le _⟩) (fun H locs Y => ?_)
    obtain ⟨e90, e91, e92, e93, e94, e95⟩ := sj6 hf
    subst e90
    subst e91
    subst e92
    subst e93
    subst e94
    subst e95
    exact x_iret X Y dX11_undo_29
  · have hf := ite_f hf c_4
    refine lv_aload_n hx hb dX11_undo_10 rfl (lv_at hl 0 rfl) ?_
    refine gfX11_10 X Y (v := .ref (Ac 0)) 0 rfl rfl dX11_undo_11 ?_
    refine gfX11_125 X Y (v := .int cab_2) 5 rfl rfl dX11_undo_14 ?_
    obtain ⟨r_10, ho_11, hf⟩ := bd1_some hf
    refine t_i Y (bk0 Y) (r_S (As := [.int cab_2]) (rest := []) X (c_pre0 X Y) (cJ_bitCount ho_11) (cwX11_144 X (by decide)) rfl hl.1 (Nat.le_of_ble_eq_true rfl) rfl dX11_undo_17 ⟨Nat.zero_le _, Nat.zero_le _⟩) (fun H locs Y => ?_)
    refine lv_goto (tgt := 29) hx hb dX11_undo_20 (by decide) ?_
    obtain ⟨e90, e91, e92, e93, e94, e95⟩ := sj6 hf
    subst e90
    subst e91
    subst e92
    subst e93
    subst e94
    subst e95
    exact x_iret X Y dX11_undo_29
theorem cX_undo {l : Launch} {Γ : Gm} {Ax : Nat → Nat} {Ac : Nat → Nat} {Ad : Nat → Nat} {Ai : Nat → Nat} {Aj : Nat → Nat} {At : Nat → Nat} {Ab : Nat → Nat} {Aq : Nat → Nat} {Af : Nat → Nat} {xik : Int32} {xns : Nat → Int32} {xng : Nat → Int32} {xnn : Nat → Int32} {xbc : Int32} {xnc : Int32} {xfc : Int32} {csw : Int32} {cca : Int32} {csi : Int32} {cab : Int32} {cun : Int32} {csg : Int32} {cfa : Nat → Int32} {che : Nat → Int32} {cst : Nat → Int32} {dsw : Int32} {dca : Int32} {dsi : Int32} {dab : Int32} {dun : Int32} {dsg : Int32} {dfa : Nat → Int32} {dhe : Nat → Int32} {dst : Nat → Int32} {isw : Int32} {ica : Int32} {isi : Int32} {iab : Int32} {iun : Int32} {isg : Int32} {ifa : Nat → Int32} {ihe : Nat → Int32} {ist : Nat → Int32} {jsw : Int32} {jca : Int32} {jsi : Int32} {jab : Int32} {jun : Int32} {jsg : Int32} {jfa : Nat → Int32} {jhe : Nat → Int32} {jst : Nat → Int32} {tby : Nat → Int32} {tnu : Nat → Int32} {tln : Int32} {tat : Int32} {tsr : Int32} {ttk : Int32} {tnm : Int32} {tit : Int32} {tft : Int32} {blo : Int32} {bwh : Int32} {bow : Int32} {bom : Int32} {qhe : Nat → Int32} {qbi : Nat → Int32} {qhv : Nat → Int32} {qwo : Nat → Int32} {qts : Int32} {qbb : Int32} {qbc : Int32} {qbw : Int32} {fab : Int64} {fbe : Int64} {xbc_z : Int32} {xnc_z : Int32} {xfc_z : Int32} {cab_z : Int32} {cun_z : Int32} {r0 : Int32} (h : X_undo xbc xnc xfc cab cun che = some (r0, xbc_z, xnc_z, xfc_z, cab_z, cun_z)) : CI l Γ yX11_undo (Cond.code yX11_undo cX11_undo 1 (some .int) :: GW) rmX_undo [.ref (Ax 0)] ((WX Γ Ax Ac Ad Ai Aj At Ab Aq Af xik xns xng xnn xbc xnc xfc) ++ ((WC Γ Ac csw cca csi cab cun csg cfa che cst) ++ ((WC Γ Ad dsw dca dsi dab dun dsg dfa dhe dst) ++ ((WC Γ Ai isw ica isi iab iun isg ifa ihe ist) ++ ((WC Γ Aj jsw jca jsi jab jun jsg jfa jhe jst) ++ ((WT Γ At tby tnu tln tat tsr ttk tnm tit tft) ++ ((WB Γ Ab blo bwh bow bom) ++ ((WQ Γ Aq qhe qbi qhv qwo qts qbb qbc qbw) ++ (WF Γ Af fab fbe))))))))) ((WX Γ Ax Ac Ad Ai Aj At Ab Aq Af xik xns xng xnn xbc_z xnc_z xfc_z) ++ ((WC Γ Ac csw cca csi cab_z cun_z csg cfa che cst) ++ ((WC Γ Ad dsw dca dsi dab dun dsg dfa dhe dst) ++ ((WC Γ Ai isw ica isi iab iun isg ifa ihe ist) ++ ((WC Γ Aj jsw jca jsi jab jun jsg jfa jhe jst) ++ ((WT Γ At tby tnu tln tat tsr ttk tnm tit tft) ++ ((WB Γ Ab blo bwh bow bom) ++ ((WQ Γ Aq qhe qbi qhv qwo qts qbb qbc qbw) ++ (WF Γ Af fab fbe))))))))) r0 := ofBody (Qc := QcI Γ _ _ r0) (by decide) (Nat.le_of_ble_eq_true rfl) (fun p e s m below meth c ls _ X Y hl => bX_undo_e X h Y hl)
theorem cwX11_149 (X : Cx Γ p s m args meth c RX11 cc nL ret w0) (hR : rmX_isIn.frames + 1 ≤ R.frames ∧ 8 + (2 + 11) + rmX_isIn.locals ≤ R.locals) : CallB R s args RX11 149 yX11_isIn cX11_isIn 2 (some .boolean) (Cond.code yX11_isIn cX11_isIn 2 (some .boolean) :: GW) rmX_isIn 0 0 2 ∧ (Cond.static yX11_isIn).before args s = true := cw_S X kw548 kw242 kw220 kw243 dmX11_isInS rfl rfl hR
def rmX_of : Room := { frames := 3, cells := 0, slots := 0, locals := 67 }
def X_of_21 (xbc : Int32) (xnc : Int32) (xfc : Int32) (csi : Int32) (cab : Int32) (cfa : Nat → Int32) : Option (Int32 × Int32 × Int32 × Int32) := bd4 (X_refuse (-2 : Int32) xbc xnc xfc) (fun (r_1 : Int32) (xbc_2 : Int32) (xnc_3 : Int32) (xfc_4 : Int32) => some (r_1, xbc_2, xnc_3, xfc_4))
set_option maxHeartbeats 4000000 in
set_option maxRecDepth 100000 in
theorem bX_of_21 {Ax : Nat → Nat} {Ac : Nat → Nat} {Ad : Nat → Nat} {Ai : Nat → Nat} {Aj : Nat → Nat} {At : Nat → Nat} {Ab : Nat → Nat} {Aq : Nat → Nat} {Af : Nat → Nat} {xik : Int32} {xns : Nat → Int32} {xng : Nat → Int32} {xnn : Nat → Int32} {xbc : Int32} {xnc : Int32} {xfc : Int32} {csw : Int32} {cca : Int32} {csi : Int32} {cab : Int32} {cun : Int32} {csg : Int32} {cfa : Nat → Int32} {che : Nat → Int32} {cst : Nat → Int32} {dsw : Int32} {dca : Int32} {dsi : Int32} {dab : Int32} {dun : Int32} {dsg : Int32} {dfa : Nat → Int32} {dhe : Nat → Int32} {dst : Nat → Int32} {isw : Int32} {ica : Int32} {isi : Int32} {iab : Int32} {iun : Int32} {isg : Int32} {ifa : Nat → Int32} {ihe : Nat → Int32} {ist : Nat → Int32} {jsw : Int32} {jca : Int32} {jsi : Int32} {jab : Int32} {jun : Int32} {jsg : Int32} {jfa : Nat → Int32} {jhe : Nat → Int32} {jst : Nat → Int32} {tby : Nat → Int32} {tnu : Nat → Int32} {tln : Int32} {tat : Int32} {tsr : Int32} {ttk : Int32} {tnm : Int32} {tit : Int32} {tft : Int32} {blo : Int32} {bwh : Int32} {bow : Int32} {bom : Int32} {qhe : Nat → Int32} {qbi : Nat → Int32} {qhv : Nat → Int32} {qwo : Nat → Int32} {qts : Int32} {qbb : Int32} {qbc : Int32} {qbw : Int32} {fab : Int64} {fbe : Int64} {xbc_z : Int32} {xnc_z : Int32} {xfc_z : Int32} {r0 : Int32} (X : Cx Γ p s m args meth c RX11 cX11_of 3 (some .int) w0) (hf : X_of_21 xbc xnc xfc csi cab cfa = some (r0, xbc_z, xnc_z, xfc_z)) (Y : Wd Γ w0 s ((WX Γ Ax Ac Ad Ai Aj At Ab Aq Af xik xns xng xnn xbc xnc xfc) ++ ((WC Γ Ac csw cca csi cab cun csg cfa che cst) ++ ((WC Γ Ad dsw dca dsi dab dun dsg dfa dhe dst) ++ ((WC Γ Ai isw ica isi iab iun isg ifa ihe ist) ++ ((WC Γ Aj jsw jca jsi jab jun jsg jfa jhe jst) ++ ((WT Γ At tby tnu tln tat tsr ttk tnm tit tft) ++ ((WB Γ Ab blo bwh bow bom) ++ ((WQ Γ Aq qhe qbi qhv qwo qts qbb qbc qbw) ++ (WF Γ Af fab fbe))))))))) H locs) (hl : lv_has ls 3 [(0, .ref (Ax 0))]) : W p l e rmX_of s m args below meth c H locs 0 0 (EI Γ below args s w0 ((WX Γ Ax Ac Ad Ai Aj At Ab Aq Af xik xns xng xnn xbc_z xnc_z xfc_z) ++ ((WC Γ Ac csw cca csi cab cun csg cfa che cst) ++ ((WC Γ Ad dsw dca dsi dab dun dsg dfa dhe dst) ++ ((WC Γ Ai isw ica isi iab iun isg ifa ihe ist) ++ ((WC Γ Aj jsw jca jsi jab jun jsg jfa jhe jst) ++ ((WT Γ At tby tnu tln tat tsr ttk tnm tit tft) ++ ((WB Γ Ab blo bwh bow bom) ++ ((WQ Γ Aq qhe qbi qhv qwo qts qbb qbc qbw) ++ (WF Γ Af fab fbe))))))))) r0) (F0 m 21 ls []) := by
  have hx := X.1
  have hb := X.2.1
  refine lv_aload_n hx hb dX11_of_21 rfl (lv_at hl 0 rfl) ?_
  refine lv_bipush (v := (-2 : Int32)) hx hb dX11_of_22 (by decide) ?_
  obtain ⟨r_1, xbc_2, xnc_3, xfc_4, ho_5, hf⟩ := bd4_some hf
  refine t_i Y (bkS Y) (r_V (As := [.int (-2 : Int32)]) (rest := []) X (c_preS X Y) (cX_refuse ho_5) (cwX11_71 X (by decide)) (va_recv X.K Y.1 (q := (RX11, TX11, 14)) (q0 := 0) (ci := 11) rfl rfl) rfl hl.1 (Nat.le_of_ble_eq_true rfl) rfl dX11_of_24 ⟨Nat.zero_le _, Nat.zero_le _⟩) (fun H locs Y => ?_)
  obtain ⟨e90, e91, e92, e93⟩ := sj4 hf
  subst e90
  subst e91
  subst e92
  subst e93
  exact x_iret X Y dX11_of_27
def X_of (x1 : Int32) (x2 : Int32) (xbc : Int32) (xnc : Int32) (xfc : Int32) (csi : Int32) (cab : Int32) (cfa : Nat → Int32) : Option (Int32 × Int32 × Int32 × Int32) := bd1 (C_has x1 csi) (fun (r_1 : Int32) => if r_1 = 0 then (X_of_21 xbc xnc xfc csi cab cfa) else (bd1 (X_within x2 (0 : Int32) (7 : Int32)) (fun (r_3 : Int32) => if r_3 = 0 then (X_of_21 xbc xnc xfc csi cab cfa) else (if x2 = (6 : Int32) then (bd1 (X_isIn cab x1) (fun (r_12 : Int32) => if r_12 = 0 then (some ((0 : Int32), xbc, xnc, xfc)) else (some ((1 : Int32), xbc, xnc, xfc)))) else (if x2 = (7 : Int32) then (bd1 (C_isTop x1 cab csi cfa) (fun (r_9 : Int32) => if r_9 = 0 then (some ((0 : Int32), xbc, xnc, xfc)) else (some ((1 : Int32), xbc, xnc, xfc)))) else (bd1 (C_fact x1 x2 csi cfa) (fun (r_7 : Int32) => some (r_7, xbc, xnc, xfc))))))))
set_option maxHeartbeats 4000000 in
set_option maxRecDepth 100000 in
theorem bX_of_e {Ax : Nat → Nat} {Ac : Nat → Nat} {Ad : Nat → Nat} {Ai : Nat → Nat} {Aj : Nat → Nat} {At : Nat → Nat} {Ab : Nat → Nat} {Aq : Nat → Nat} {Af : Nat → Nat} {xik : Int32} {xns : Nat → Int32} {xng : Nat → Int32} {xnn : Nat → Int32} {xbc : Int32} {xnc : Int32} {xfc : Int32} {csw : Int32} {cca : Int32} {csi : Int32} {cab : Int32} {cun : Int32} {csg : Int32} {cfa : Nat → Int32} {che : Nat → Int32} {cst : Nat → Int32} {dsw : Int32} {dca : Int32} {dsi : Int32} {dab : Int32} {dun : Int32} {dsg : Int32} {dfa : Nat → Int32} {dhe : Nat → Int32} {dst : Nat → Int32} {isw : Int32} {ica : Int32} {isi : Int32} {iab : Int32} {iun : Int32} {isg : Int32} {ifa : Nat → Int32} {ihe : Nat → Int32} {ist : Nat → Int32} {jsw : Int32} {jca : Int32} {jsi : Int32} {jab : Int32} {jun : Int32} {jsg : Int32} {jfa : Nat → Int32} {jhe : Nat → Int32} {jst : Nat → Int32} {tby : Nat → Int32} {tnu : Nat → Int32} {tln : Int32} {tat : Int32} {tsr : Int32} {ttk : Int32} {tnm : Int32} {tit : Int32} {tft : Int32} {blo : Int32} {bwh : Int32} {bow : Int32} {bom : Int32} {qhe : Nat → Int32} {qbi : Nat → Int32} {qhv : Nat → Int32} {qwo : Nat → Int32} {qts : Int32} {qbb : Int32} {qbc : Int32} {qbw : Int32} {fab : Int64} {fbe : Int64} {xbc_z : Int32} {xnc_z : Int32} {xfc_z : Int32} {r0 : Int32} {x1 : Int32} {x2 : Int32} (X : Cx Γ p s m args meth c RX11 cX11_of 3 (some .int) w0) (hf : X_of x1 x2 xbc xnc xfc csi cab cfa = some (r0, xbc_z, xnc_z, xfc_z)) (Y : Wd Γ w0 s ((WX Γ Ax Ac Ad Ai Aj At Ab Aq Af xik xns xng xnn xbc xnc xfc) ++ ((WC Γ Ac csw cca csi cab cun csg cfa che cst) ++ ((WC Γ Ad dsw dca dsi dab dun dsg dfa dhe dst) ++ ((WC Γ Ai isw ica isi iab iun isg ifa ihe ist) ++ ((WC Γ Aj jsw jca jsi jab jun jsg jfa jhe jst) ++ ((WT Γ At tby tnu tln tat tsr ttk tnm tit tft) ++ ((WB Γ Ab blo bwh bow bom) ++ ((WQ Γ Aq qhe qbi qhv qwo qts qbb qbc qbw) ++ (WF Γ Af fab fbe))))))))) H locs) (hl : lv_has ls 3 [(0, .ref (Ax 0)), (1, .int x1), (2, .int x2)]) : W p l e rmX_of s m args below meth c H locs 0 0 (EI Γ below args s w0 ((WX Γ Ax Ac Ad Ai Aj At Ab Aq Af xik xns xng xnn xbc_z xnc_z xfc_z) ++ ((WC Γ Ac csw cca csi cab cun csg cfa che cst) ++ ((WC Γ Ad dsw dca dsi dab dun dsg dfa dhe dst) ++ ((WC Γ Ai isw ica isi iab iun isg ifa ihe ist) ++ ((WC Γ Aj jsw jca jsi jab jun jsg jfa jhe jst) ++ ((WT Γ At tby tnu tln tat tsr ttk tnm tit tft) ++ ((WB Γ Ab blo bwh bow bom) ++ ((WQ Γ Aq qhe qbi qhv qwo qts qbb qbc qbw) ++ (WF Γ Af fab fbe))))))))) r0) (F0 m 0 ls []) := by
  have hx := X.1
  have hb := X.2.1
  refine lv_aload_n hx hb dX11_of_0 rfl (lv_at hl 0 rfl) ?_
  refine gfX11_10 X Y (v := .ref (Ac 0)) 0 rfl rfl dX11_of_1 ?_
  refine lv_iload_n hx hb dX11_of_4 rfl (lv_at hl 1 rfl) ?_
  obtain ⟨r_1, ho_16, hf⟩ := bd1_some hf
  refine t_i Y (bkE Y [5, 6, 7, 8] rfl) (r_V (As := [.int x1]) (rest := []) X (c_pre X Y [5, 6, 7, 8] rfl rfl) (cC_has ho_16) (cwX11_93 X (by decide)) (va_recv X.K Y.1 (q := (RX1, TX1, 9)) (q0 := 5) (ci := 1) rfl rfl) rfl hl.1 (Nat.le_of_ble_eq_true rfl) rfl dX11_of_5 ⟨Nat.zero_le _, Nat.zero_le _⟩) (fun H locs Y => ?_)
  refine lv_if_eq (tgt := 21) hx hb dX11_of_8 (by decide) (fun c_2 => ?_) (fun c_2 => ?_)
  · have hf := ite_t hf c_2
    exact bX_of_21 X hf Y (lv_sub hl [0] rfl)
  · have hf := ite_f hf c_2
    refine lv_iload_n hx hb dX11_of_11 rfl (lv_at hl 2 rfl) ?_
    refine lv_iconst (v := (0 : Int32)) hx hb dX11_of_12 (by decide) ?_
    refine lv_bipush (v := (7 : Int32)) hx hb dX11_of_13 (by decide) ?_
    obtain ⟨r_3, ho_15, hf⟩ := bd1_some hf
    refine t_i Y (bk0 Y) (r_S (As := [.int x2, .int (0 : Int32), .int (7 : Int32)]) (rest := []) X (c_pre0 X Y) (cX_within ho_15) (cwX11_97 X (by decide)) rfl hl.1 (Nat.le_of_ble_eq_true rfl) rfl dX11_of_15 ⟨Nat.zero_le _, Nat.zero_le _⟩) (fun H locs Y => ?_)
    refine lv_if_ne (tgt := 28) hx hb dX11_of_18 (by decide) (fun c_4 => ?_) (fun c_4 => ?_)
    · have hf := ite_f hf c_4
      refine lv_iload_n hx hb dX11_of_28 rfl (lv_at hl 2 rfl) ?_
      refine lv_bipush (v := (6 : Int32)) hx hb dX11_of_29 (by decide) ?_
      refine lv_icmp_ne (tgt := 54) hx hb dX11_of_31 (by decide) (fun c_5 => ?_) (fun c_5 => ?_)
      · have hf := ite_f hf c_5
        refine lv_iload_n hx hb dX11_of_54 rfl (lv_at hl 2 rfl) ?_
        refine lv_bipush (v := (7 : Int32)) hx hb dX11_of_55 (by decide) ?_
        refine lv_icmp_ne (tgt := 84) hx hb dX11_of_57 (by decide) (fun c_6 => ?_) (fun c_6 => ?_)
        · have hf := ite_f hf c_6
          refine lv_aload_n hx hb dX11_of_84 rfl (lv_at hl 0 rfl) ?_
          refine gfX11_10 X Y (v := .ref (Ac 0)) 0 rfl rfl dX11_of_85 ?_
          refine lv_iload_n hx hb dX11_of_88 rfl (lv_at hl 1 rfl) ?_
          refine lv_iload_n hx hb dX11_of_89 rfl (lv_at hl 2 rfl) ?_
          obtain ⟨r_7, ho_8, hf⟩ := bd1_some hf
          refine t_i Y (bkE Y [5, 6, 7, 8] rfl) (r_V (As := [.int x1, .int x2]) (rest := []) X (c_pre X Y [5, 6, 7, 8] rfl rfl) (cC_fact ho_8) (cwX11_101 X (by decide)) (va_recv X.K Y.1 (q := (RX1, TX1, 9)) (q0 := 5) (ci := 1) rfl rfl) rfl hl.1 (Nat.le_of_ble_eq_true rfl) rfl dX11_of_90 ⟨Nat.zero_le _, Nat.zero_le _⟩) (fun H locs Y => ?_)
          obtain ⟨e90, e91, e92, e93⟩ := sj4 hf
          subst e90
          subst e91
          subst e92
          subst e93
          exact x_iret X Y dX11_of_93
        · have hf := ite_t hf c_6
          refine lv_aload_n hx hb dX11_of_60 rfl (lv_at hl 0 rfl) ?_
          refine gfX11_10 X Y (v := .ref (Ac 0)) 0 rfl rfl dX11_of_61 ?_
          refine lv_iload_n hx hb dX11_of_64 rfl (lv_at hl 1 rfl) ?_
          refine lv_aload_n hx hb dX11_of_65 rfl (lv_at hl 0 rfl) ?_
          refine gfX11_10 X Y (v := .ref (Ac 0)) 0 rfl rfl dX11_of_66 ?_
          refine gfX11_125 X Y (v := .int cab) 5 rfl rfl dX11_of_69 ?_
          obtain ⟨r_9, ho_11, hf⟩ := bd1_some hf
          refine t_i Y (bkE Y [5, 6, 7, 8] rfl) (r_V (As := [.int x1, .int cab]) (rest := []) X (c_pre X Y [5, 6, 7, 8] rfl rfl) (cC_isTop ho_11) (cwX11_128 X (by decide)) (va_recv X.K Y.1 (q := (RX1, TX1, 9)) (q0 := 5) (ci := 1) rfl rfl) rfl hl.1 (Nat.le_of_ble_eq_true rfl) rfl dX11_of_72 ⟨Nat.zero_le _, Nat.zero_le _⟩) (fun H locs Y => ?_)
          refine lv_if_eq (tgt := 82) hx hb dX11_of_75 (by decide) (fun c_10 => ?_) (fun c_10 => ?_)
          · have hf := ite_t hf c_10
            refine lv_iconst (v := (0 : Int32)) hx hb dX11_of_82 (by decide) ?_
            obtain ⟨e90, e91, e92, e93⟩ := sj4 hf
            subst e90
            subst e91
            subst e92
            subst e93
            exact x_iret X Y dX11_of_83
          · have hf := ite_f hf c_10
            refine lv_iconst (v := (1 : Int32)) hx hb dX11_of_78 (by decide) ?_
            refine lv_goto (tgt := 83) hx hb dX11_of_79 (by decide) ?_
            obtain ⟨e90, e91, e92, e93⟩ := sj4 hf
            subst e90
            subst e91
            subst e92
            subst e93
            exact x_iret X Y dX11_of_83
      · have hf := ite_t hf c_5
        refine lv_aload_n hx hb dX11_of_34 rfl (lv_at hl 0 rfl) ?_
        refine gfX11_10 X Y (v := .ref (Ac 0)) 0 rfl rfl dX11_of_35 ?_
        refine gfX11_125 X Y (v := .int cab) 5 rfl rfl dX11_of_38 ?_
        refine lv_iload_n hx hb dX11_of_41 rfl (lv_at hl 1 rfl) ?_
        obtain ⟨r_12, ho_14, hf⟩ := bd1_some hf
        refine t_i Y (bk0 Y) (r_S (As := [.int cab, .int x1]) (rest := []) X (c_pre0 X Y) (cX_isIn ho_14) (cwX11_149 X (by decide)) rfl hl.1 (Nat.le_of_ble_eq_true rfl) rfl dX11_of_42 ⟨Nat.zero_le _, Nat.zero_le _⟩) (fun H locs Y => ?_)
        refine lv_if_eq (tgt := 52) hx hb dX11_of_45 (by decide) (fun c_13 => ?_) (fun c_13 => ?_)
        · have hf := ite_t hf c_13
          refine lv_iconst (v := (0 : Int32)) hx hb dX11_of_52 (by decide) ?_
          obtain ⟨e90, e91, e92, e93⟩ := sj4 hf
          subst e90
          subst e91
          subst e92
          subst e93
          exact x_iret X Y dX11_of_53
        · have hf := ite_f hf c_13
          refine lv_iconst (v := (1 : Int32)) hx hb dX11_of_48 (by decide) ?_
          refine lv_goto (tgt := 53) hx hb dX11_of_49 (by decide) ?_
          obtain ⟨e90, e91, e92, e93⟩ := sj4 hf
          subst e90
          subst e91
          subst e92
          subst e93
          exact x_iret X Y dX11_of_53
    · have hf := ite_t hf c_4
      exact bX_of_21 X hf Y (lv_sub hl [0] rfl)
theorem cX_of {l : Launch} {Γ : Gm} {Ax : Nat → Nat} {Ac : Nat → Nat} {Ad : Nat → Nat} {Ai : Nat → Nat} {Aj : Nat → Nat} {At : Nat → Nat} {Ab : Nat → Nat} {Aq : Nat → Nat} {Af : Nat → Nat} {xik : Int32} {xns : Nat → Int32} {xng : Nat → Int32} {xnn : Nat → Int32} {xbc : Int32} {xnc : Int32} {xfc : Int32} {csw : Int32} {cca : Int32} {csi : Int32} {cab : Int32} {cun : Int32} {csg : Int32} {cfa : Nat → Int32} {che : Nat → Int32} {cst : Nat → Int32} {dsw : Int32} {dca : Int32} {dsi : Int32} {dab : Int32} {dun : Int32} {dsg : Int32} {dfa : Nat → Int32} {dhe : Nat → Int32} {dst : Nat → Int32} {isw : Int32} {ica : Int32} {isi : Int32} {iab : Int32} {iun : Int32} {isg : Int32} {ifa : Nat → Int32} {ihe : Nat → Int32} {ist : Nat → Int32} {jsw : Int32} {jca : Int32} {jsi : Int32} {jab : Int32} {jun : Int32} {jsg : Int32} {jfa : Nat → Int32} {jhe : Nat → Int32} {jst : Nat → Int32} {tby : Nat → Int32} {tnu : Nat → Int32} {tln : Int32} {tat : Int32} {tsr : Int32} {ttk : Int32} {tnm : Int32} {tit : Int32} {tft : Int32} {blo : Int32} {bwh : Int32} {bow : Int32} {bom : Int32} {qhe : Nat → Int32} {qbi : Nat → Int32} {qhv : Nat → Int32} {qwo : Nat → Int32} {qts : Int32} {qbb : Int32} {qbc : Int32} {qbw : Int32} {fab : Int64} {fbe : Int64} {xbc_z : Int32} {xnc_z : Int32} {xfc_z : Int32} {r0 : Int32} {x1 : Int32} {x2 : Int32} (h : X_of x1 x2 xbc xnc xfc csi cab cfa = some (r0, xbc_z, xnc_z, xfc_z)) : CI l Γ yX11_of (Cond.code yX11_of cX11_of 3 (some .int) :: GW) rmX_of [.ref (Ax 0), .int x1, .int x2] ((WX Γ Ax Ac Ad Ai Aj At Ab Aq Af xik xns xng xnn xbc xnc xfc) ++ ((WC Γ Ac csw cca csi cab cun csg cfa che cst) ++ ((WC Γ Ad dsw dca dsi dab dun dsg dfa dhe dst) ++ ((WC Γ Ai isw ica isi iab iun isg ifa ihe ist) ++ ((WC Γ Aj jsw jca jsi jab jun jsg jfa jhe jst) ++ ((WT Γ At tby tnu tln tat tsr ttk tnm tit tft) ++ ((WB Γ Ab blo bwh bow bom) ++ ((WQ Γ Aq qhe qbi qhv qwo qts qbb qbc qbw) ++ (WF Γ Af fab fbe))))))))) ((WX Γ Ax Ac Ad Ai Aj At Ab Aq Af xik xns xng xnn xbc_z xnc_z xfc_z) ++ ((WC Γ Ac csw cca csi cab cun csg cfa che cst) ++ ((WC Γ Ad dsw dca dsi dab dun dsg dfa dhe dst) ++ ((WC Γ Ai isw ica isi iab iun isg ifa ihe ist) ++ ((WC Γ Aj jsw jca jsi jab jun jsg jfa jhe jst) ++ ((WT Γ At tby tnu tln tat tsr ttk tnm tit tft) ++ ((WB Γ Ab blo bwh bow bom) ++ ((WQ Γ Aq qhe qbi qhv qwo qts qbb qbc qbw) ++ (WF Γ Af fab fbe))))))))) r0 := ofBody (Qc := QcI Γ _ _ r0) (by decide) (Nat.le_of_ble_eq_true rfl) (fun p e s m below meth c ls _ X Y hl => bX_of_e X h Y hl)
theorem dmX1_outlivesV : yX1_outlives.cls = RX1 ∧ yX1_outlives.cls ≠ "java/lang/invoke/MethodHandle" ∧ yX1_outlives.cls ≠ "java/lang/invoke/VarHandle" ∧ (parseMethodDescriptor yX1_outlives.desc).map (fun d => d.parameters.length) = some 2 := by decide +kernel
theorem cwX11_155 (X : Cx Γ p s m args meth c RX11 cc nL ret w0) (hR : rmC_outlives.frames + 1 ≤ R.frames ∧ 8 + (3 + 11) + rmC_outlives.locals ≤ R.locals) : CallW R s args RX11 RX1 155 yX1_outlives cX1_outlives 3 (some .boolean) (Cond.code yX1_outlives cX1_outlives 3 (some .boolean) :: GW) rmC_outlives 0 0 2 := cw_V X kw549 kw550 kw551 kw228 kw552 dmX1_outlivesV rfl rfl hR
theorem dmX11_isStormS : yX11_isStorm.cls ≠ "java/lang/invoke/MethodHandle" ∧ yX11_isStorm.cls ≠ "java/lang/invoke/VarHandle" ∧ (parseMethodDescriptor yX11_isStorm.desc).map (fun d => d.parameters.length) = some 1 := by decide +kernel
theorem cwX11_152 (X : Cx Γ p s m args meth c RX11 cc nL ret w0) (hR : rmX_isStorm.frames + 1 ≤ R.frames ∧ 8 + (1 + 11) + rmX_isStorm.locals ≤ R.locals) : CallB R s args RX11 152 yX11_isStorm cX11_isStorm 1 (some .boolean) (Cond.code yX11_isStorm cX11_isStorm 1 (some .boolean) :: GW) rmX_isStorm 0 0 1 ∧ (Cond.static yX11_isStorm).before args s = true := cw_S X kw553 kw554 kw220 kw555 dmX11_isStormS rfl rfl hR
def rmX_lives : Room := { frames := 4, cells := 0, slots := 0, locals := 90 }
def X_lives (x1 : Int32) (xbc : Int32) (xnc : Int32) (xfc : Int32) (cca : Int32) (csi : Int32) (cab : Int32) (cfa : Nat → Int32) : Option (Int32 × Int32 × Int32 × Int32) := bd1 (X_isStorm x1) (fun (r_1 : Int32) => if r_1 = 0 then (bd4 (X_refuse (-2 : Int32) xbc xnc xfc) (fun (r_6 : Int32) (xbc_7 : Int32) (xnc_8 : Int32) (xfc_9 : Int32) => some (r_6, xbc_7, xnc_8, xfc_9))) else (bd1 (C_outlives x1 cab cca csi cfa) (fun (r_3 : Int32) => if r_3 = 0 then (some ((0 : Int32), xbc, xnc, xfc)) else (some ((1 : Int32), xbc, xnc, xfc)))))
set_option maxHeartbeats 4000000 in
set_option maxRecDepth 100000 in
theorem bX_lives_e {Ax : Nat → Nat} {Ac : Nat → Nat} {Ad : Nat → Nat} {Ai : Nat → Nat} {Aj : Nat → Nat} {At : Nat → Nat} {Ab : Nat → Nat} {Aq : Nat → Nat} {Af : Nat → Nat} {xik : Int32} {xns : Nat → Int32} {xng : Nat → Int32} {xnn : Nat → Int32} {xbc : Int32} {xnc : Int32} {xfc : Int32} {csw : Int32} {cca : Int32} {csi : Int32} {cab : Int32} {cun : Int32} {csg : Int32} {cfa : Nat → Int32} {che : Nat → Int32} {cst : Nat → Int32} {dsw : Int32} {dca : Int32} {dsi : Int32} {dab : Int32} {dun : Int32} {dsg : Int32} {dfa : Nat → Int32} {dhe : Nat → Int32} {dst : Nat → Int32} {isw : Int32} {ica : Int32} {isi : Int32} {iab : Int32} {iun : Int32} {isg : Int32} {ifa : Nat → Int32} {ihe : Nat → Int32} {ist : Nat → Int32} {jsw : Int32} {jca : Int32} {jsi : Int32} {jab : Int32} {jun : Int32} {jsg : Int32} {jfa : Nat → Int32} {jhe : Nat → Int32} {jst : Nat → Int32} {tby : Nat → Int32} {tnu : Nat → Int32} {tln : Int32} {tat : Int32} {tsr : Int32} {ttk : Int32} {tnm : Int32} {tit : Int32} {tft : Int32} {blo : Int32} {bwh : Int32} {bow : Int32} {bom : Int32} {qhe : Nat → Int32} {qbi : Nat → Int32} {qhv : Nat → Int32} {qwo : Nat → Int32} {qts : Int32} {qbb : Int32} {qbc : Int32} {qbw : Int32} {fab : Int64} {fbe : Int64} {xbc_z : Int32} {xnc_z : Int32} {xfc_z : Int32} {r0 : Int32} {x1 : Int32} (X : Cx Γ p s m args meth c RX11 cX11_lives 2 (some .int) w0) (hf : X_lives x1 xbc xnc xfc cca csi cab cfa = some (r0, xbc_z, xnc_z, xfc_z)) (Y : Wd Γ w0 s ((WX Γ Ax Ac Ad Ai Aj At Ab Aq Af xik xns xng xnn xbc xnc xfc) ++ ((WC Γ Ac csw cca csi cab cun csg cfa che cst) ++ ((WC Γ Ad dsw dca dsi dab dun dsg dfa dhe dst) ++ ((WC Γ Ai isw ica isi iab iun isg ifa ihe ist) ++ ((WC Γ Aj jsw jca jsi jab jun jsg jfa jhe jst) ++ ((WT Γ At tby tnu tln tat tsr ttk tnm tit tft) ++ ((WB Γ Ab blo bwh bow bom) ++ ((WQ Γ Aq qhe qbi qhv qwo qts qbb qbc qbw) ++ (WF Γ Af fab fbe))))))))) H locs) (hl : lv_has ls 2 [(0, .ref (Ax 0)), (1, .int x1)]) : W p l e rmX_lives s m args below meth c H locs 0 0 (EI Γ below args s w0 ((WX Γ Ax Ac Ad Ai Aj At Ab Aq Af xik xns xng xnn xbc_z xnc_z xfc_z) ++ ((WC Γ Ac csw cca csi cab cun csg cfa che cst) ++ ((WC Γ Ad dsw dca dsi dab dun dsg dfa dhe dst) ++ ((WC Γ Ai isw ica isi iab iun isg ifa ihe ist) ++ ((WC Γ Aj jsw jca jsi jab jun jsg jfa jhe jst) ++ ((WT Γ At tby tnu tln tat tsr ttk tnm tit tft) ++ ((WB Γ Ab blo bwh bow bom) ++ ((WQ Γ Aq qhe qbi qhv qwo qts qbb qbc qbw) ++ (WF Γ Af fab fbe))))))))) r0) (F0 m 0 ls []) := by
  have hx := X.1
  have hb := X.2.1
  refine lv_iload_n hx hb dX11_lives_0 rfl (lv_at hl 1 rfl) ?_
  obtain ⟨r_1, ho_11, hf⟩ := bd1_some hf
  refine t_i Y (bk0 Y) (r_S (As := [.int x1]) (rest := []) X (c_pre0 X Y) (cX_isStorm ho_11) (cwX11_152 X (by decide)) rfl hl.1 (Nat.le_of_ble_eq_true rfl) rfl dX11_lives_1 ⟨Nat.zero_le _, Nat.zero_le _⟩) (fun H locs Y => ?_)
  refine lv_if_ne (tgt := 14) hx hb dX11_lives_4 (by decide) (fun c_2 => ?_) (fun c_2 => ?_)
  · have hf := ite_f hf c_2
    refine lv_aload_n hx hb dX11_lives_14 rfl (lv_at hl 0 rfl) ?_
    refine gfX11_10 X Y (v := .ref (Ac 0)) 0 rfl rfl dX11_lives_15 ?_
    refine lv_iload_n hx hb dX11_lives_18 rfl (lv_at hl 1 rfl) ?_
    refine lv_aload_n hx hb dX11_lives_19 rfl (lv_at hl 0 rfl) ?_
    refine gfX11_10 X Y (v := .ref (Ac 0)) 0 rfl rfl dX11_lives_20 ?_
    refine gfX11_125 X Y (v := .int cab) 5 rfl rfl dX11_lives_23 ?_
    obtain ⟨r_3, ho_5, hf⟩ := bd1_some hf
    refine t_i Y (bkE Y [5, 6, 7, 8] rfl) (r_V (As := [.int x1, .int cab]) (rest := []) X (c_pre X Y [5, 6, 7, 8] rfl rfl) (cC_outlives ho_5) (cwX11_155 X (by decide)) (va_recv X.K Y.1 (q := (RX1, TX1, 9)) (q0 := 5) (ci := 1) rfl rfl) rfl hl.1 (Nat.le_of_ble_eq_true rfl) rfl dX11_lives_26 ⟨Nat.zero_le _, Nat.zero_le _⟩) (fun H locs Y => ?_)
    refine lv_if_eq (tgt := 36) hx hb dX11_lives_29 (by decide) (fun c_4 => ?_) (fun c_4 => ?_)
    · have hf := ite_t hf c_4
      refine lv_iconst (v := (0 : Int32)) hx hb dX11_lives_36 (by decide) ?_
      obtain ⟨e90, e91, e92, e93⟩ := sj4 hf
      subst e90
      subst e91
      subst e92
      subst e93
      exact x_iret X Y dX11_lives_37
    · have hf := ite_f hf c_4
      refine lv_iconst (v := (1 : Int32)) hx hb dX11_lives_32 (by decide) ?_
      refine lv_goto (tgt := 37) hx hb dX11_lives_33 (by decide) ?_
      obtain ⟨e90, e91, e92, e93⟩ := sj4 hf
      subst e90
      subst e91
      subst e92
      subst e93
      exact x_iret X Y dX11_lives_37
  · have hf := ite_t hf c_2
    refine lv_aload_n hx hb dX11_lives_7 rfl (lv_at hl 0 rfl) ?_
    refine lv_bipush (v := (-2 : Int32)) hx hb dX11_lives_8 (by decide) ?_
    obtain ⟨r_6, xbc_7, xnc_8, xfc_9, ho_10, hf⟩ := bd4_some hf
    refine t_i Y (bkS Y) (r_V (As := [.int (-2 : Int32)]) (rest := []) X (c_preS X Y) (cX_refuse ho_10) (cwX11_71 X (by decide)) (va_recv X.K Y.1 (q := (RX11, TX11, 14)) (q0 := 0) (ci := 11) rfl rfl) rfl hl.1 (Nat.le_of_ble_eq_true rfl) rfl dX11_lives_10 ⟨Nat.zero_le _, Nat.zero_le _⟩) (fun H locs Y => ?_)
    obtain ⟨e90, e91, e92, e93⟩ := sj4 hf
    subst e90
    subst e91
    subst e92
    subst e93
    exact x_iret X Y dX11_lives_13
theorem cX_lives {l : Launch} {Γ : Gm} {Ax : Nat → Nat} {Ac : Nat → Nat} {Ad : Nat → Nat} {Ai : Nat → Nat} {Aj : Nat → Nat} {At : Nat → Nat} {Ab : Nat → Nat} {Aq : Nat → Nat} {Af : Nat → Nat} {xik : Int32} {xns : Nat → Int32} {xng : Nat → Int32} {xnn : Nat → Int32} {xbc : Int32} {xnc : Int32} {xfc : Int32} {csw : Int32} {cca : Int32} {csi : Int32} {cab : Int32} {cun : Int32} {csg : Int32} {cfa : Nat → Int32} {che : Nat → Int32} {cst : Nat → Int32} {dsw : Int32} {dca : Int32} {dsi : Int32} {dab : Int32} {dun : Int32} {dsg : Int32} {dfa : Nat → Int32} {dhe : Nat → Int32} {dst : Nat → Int32} {isw : Int32} {ica : Int32} {isi : Int32} {iab : Int32} {iun : Int32} {isg : Int32} {ifa : Nat → Int32} {ihe : Nat → Int32} {ist : Nat → Int32} {jsw : Int32} {jca : Int32} {jsi : Int32} {jab : Int32} {jun : Int32} {jsg : Int32} {jfa : Nat → Int32} {jhe : Nat → Int32} {jst : Nat → Int32} {tby : Nat → Int32} {tnu : Nat → Int32} {tln : Int32} {tat : Int32} {tsr : Int32} {ttk : Int32} {tnm : Int32} {tit : Int32} {tft : Int32} {blo : Int32} {bwh : Int32} {bow : Int32} {bom : Int32} {qhe : Nat → Int32} {qbi : Nat → Int32} {qhv : Nat → Int32} {qwo : Nat → Int32} {qts : Int32} {qbb : Int32} {qbc : Int32} {qbw : Int32} {fab : Int64} {fbe : Int64} {xbc_z : Int32} {xnc_z : Int32} {xfc_z : Int32} {r0 : Int32} {x1 : Int32} (h : X_lives x1 xbc xnc xfc cca csi cab cfa = some (r0, xbc_z, xnc_z, xfc_z)) : CI l Γ yX11_lives (Cond.code yX11_lives cX11_lives 2 (some .int) :: GW) rmX_lives [.ref (Ax 0), .int x1] ((WX Γ Ax Ac Ad Ai Aj At Ab Aq Af xik xns xng xnn xbc xnc xfc) ++ ((WC Γ Ac csw cca csi cab cun csg cfa che cst) ++ ((WC Γ Ad dsw dca dsi dab dun dsg dfa dhe dst) ++ ((WC Γ Ai isw ica isi iab iun isg ifa ihe ist) ++ ((WC Γ Aj jsw jca jsi jab jun jsg jfa jhe jst) ++ ((WT Γ At tby tnu tln tat tsr ttk tnm tit tft) ++ ((WB Γ Ab blo bwh bow bom) ++ ((WQ Γ Aq qhe qbi qhv qwo qts qbb qbc qbw) ++ (WF Γ Af fab fbe))))))))) ((WX Γ Ax Ac Ad Ai Aj At Ab Aq Af xik xns xng xnn xbc_z xnc_z xfc_z) ++ ((WC Γ Ac csw cca csi cab cun csg cfa che cst) ++ ((WC Γ Ad dsw dca dsi dab dun dsg dfa dhe dst) ++ ((WC Γ Ai isw ica isi iab iun isg ifa ihe ist) ++ ((WC Γ Aj jsw jca jsi jab jun jsg jfa jhe jst) ++ ((WT Γ At tby tnu tln tat tsr ttk tnm tit tft) ++ ((WB Γ Ab blo bwh bow bom) ++ ((WQ Γ Aq qhe qbi qhv qwo qts qbb qbc qbw) ++ (WF Γ Af fab fbe))))))))) r0 := ofBody (Qc := QcI Γ _ _ r0) (by decide) (Nat.le_of_ble_eq_true rfl) (fun p e s m below meth c ls _ X Y hl => bX_lives_e X h Y hl)
theorem gfX11_168 (X : Cx Γ p s m args meth c RX11 cc nL ret w0) (Y : Wd Γ w0 s ws H locs) {v : Value} (q0 : Nat) {fs : List Value} (he : ws[q0]? = some (a, .inr (0, fs))) (hv : fs[2]? = some v) (hdg : decode cc pc = .ok (.getfield 168, 3)) (kk : W p l e R s m args below meth c H locs cells slots Q (F0 m (pc + 3) ls (v :: rest))) : W p l e R s m args below meth c H locs cells slots Q (F0 m pc ls (.ref a :: rest)) := x_getN X Y iX0 rfl 2 (by decide) rfl kw556 q0 he hv hdg kk
theorem gfX11_165 (X : Cx Γ p s m args meth c RX11 cc nL ret w0) (Y : Wd Γ w0 s ws H locs) {v : Value} (q0 : Nat) {fs : List Value} (he : ws[q0]? = some (a, .inr (0, fs))) (hv : fs[1]? = some v) (hdg : decode cc pc = .ok (.getfield 165, 3)) (kk : W p l e R s m args below meth c H locs cells slots Q (F0 m (pc + 3) ls (v :: rest))) : W p l e R s m args below meth c H locs cells slots Q (F0 m pc ls (.ref a :: rest)) := x_getN X Y iX0 rfl 1 (by decide) rfl kw557 q0 he hv hdg kk
theorem dmX0_reckonV : yX0_reckon.cls = RX0 ∧ yX0_reckon.cls ≠ "java/lang/invoke/MethodHandle" ∧ yX0_reckon.cls ≠ "java/lang/invoke/VarHandle" ∧ (parseMethodDescriptor yX0_reckon.desc).map (fun d => d.parameters.length) = some 2 := by decide +kernel
theorem cwX11_161 (X : Cx Γ p s m args meth c RX11 cc nL ret w0) (hR : rmB_reckon.frames + 1 ≤ R.frames ∧ 8 + (4 + 11) + rmB_reckon.locals ≤ R.locals) : CallW R s args RX11 RX0 161 yX0_reckon cX0_reckon 4 none (Cond.code yX0_reckon cX0_reckon 4 none :: GW) rmB_reckon 0 0 2 := cw_V X kw558 kw559 kw560 kw333 kw561 dmX0_reckonV rfl rfl hR
theorem cwX11_158 (X : Cx Γ p s m args meth c RX11 cc nL ret w0) (hR : rmC_total.frames + 1 ≤ R.frames ∧ 8 + (5 + 11) + rmC_total.locals ≤ R.locals) : CallW R s args RX11 RX1 158 yX1_total cX1_total 5 (some .int) (Cond.code yX1_total cX1_total 5 (some .int) :: GW) rmC_total 0 0 2 := cw_V X kw562 kw253 kw254 kw228 kw255 dmX1_totalV rfl rfl hR
def rmX_now : Room := { frames := 5, cells := 0, slots := 0, locals := 117 }
def X_now_42 (y0 : Int32) (y1 : Int32) (xbc : Int32) (xnc : Int32) (xfc : Int32) (csw : Int32) (csi : Int32) (cab : Int32) (cfa : Nat → Int32) (blo : Int32) (bwh : Int32) (bow : Int32) (bom : Int32) : Option (Int32 × Int32 × Int32 × Int32 × Int32 × Int32 × Int32 × Int32) := bd1 (C_total y1 y0 csi cfa) (fun (r_1 : Int32) => some (r_1, xbc, xnc, xfc, blo, bwh, bow, bom))
set_option maxHeartbeats 4000000 in
set_option maxRecDepth 100000 in
theorem bX_now_42 {Ax : Nat → Nat} {Ac : Nat → Nat} {Ad : Nat → Nat} {Ai : Nat → Nat} {Aj : Nat → Nat} {At : Nat → Nat} {Ab : Nat → Nat} {Aq : Nat → Nat} {Af : Nat → Nat} {xik : Int32} {xns : Nat → Int32} {xng : Nat → Int32} {xnn : Nat → Int32} {xbc : Int32} {xnc : Int32} {xfc : Int32} {csw : Int32} {cca : Int32} {csi : Int32} {cab : Int32} {cun : Int32} {csg : Int32} {cfa : Nat → Int32} {che : Nat → Int32} {cst : Nat → Int32} {dsw : Int32} {dca : Int32} {dsi : Int32} {dab : Int32} {dun : Int32} {dsg : Int32} {dfa : Nat → Int32} {dhe : Nat → Int32} {dst : Nat → Int32} {isw : Int32} {ica : Int32} {isi : Int32} {iab : Int32} {iun : Int32} {isg : Int32} {ifa : Nat → Int32} {ihe : Nat → Int32} {ist : Nat → Int32} {jsw : Int32} {jca : Int32} {jsi : Int32} {jab : Int32} {jun : Int32} {jsg : Int32} {jfa : Nat → Int32} {jhe : Nat → Int32} {jst : Nat → Int32} {tby : Nat → Int32} {tnu : Nat → Int32} {tln : Int32} {tat : Int32} {tsr : Int32} {ttk : Int32} {tnm : Int32} {tit : Int32} {tft : Int32} {blo : Int32} {bwh : Int32} {bow : Int32} {bom : Int32} {qhe : Nat → Int32} {qbi : Nat → Int32} {qhv : Nat → Int32} {qwo : Nat → Int32} {qts : Int32} {qbb : Int32} {qbc : Int32} {qbw : Int32} {fab : Int64} {fbe : Int64} {xbc_z : Int32} {xnc_z : Int32} {xfc_z : Int32} {blo_z : Int32} {bwh_z : Int32} {bow_z : Int32} {bom_z : Int32} {r0 : Int32} {y0 : Int32} {y1 : Int32} (X : Cx Γ p s m args meth c RX11 cX11_now 2 (some .int) w0) (hf : X_now_42 y0 y1 xbc xnc xfc csw csi cab cfa blo bwh bow bom = some (r0, xbc_z, xnc_z, xfc_z, blo_z, bwh_z, bow_z, bom_z)) (Y : Wd Γ w0 s ((WX Γ Ax Ac Ad Ai Aj At Ab Aq Af xik xns xng xnn xbc xnc xfc) ++ ((WC Γ Ac csw cca csi cab cun csg cfa che cst) ++ ((WC Γ Ad dsw dca dsi dab dun dsg dfa dhe dst) ++ ((WC Γ Ai isw ica isi iab iun isg ifa ihe ist) ++ ((WC Γ Aj jsw jca jsi jab jun jsg jfa jhe jst) ++ ((WT Γ At tby tnu tln tat tsr ttk tnm tit tft) ++ ((WB Γ Ab blo bwh bow bom) ++ ((WQ Γ Aq qhe qbi qhv qwo qts qbb qbc qbw) ++ (WF Γ Af fab fbe))))))))) H locs) (hl : lv_has ls 2 []) : W p l e rmX_now s m args below meth c H locs 0 0 (EI Γ below args s w0 ((WX Γ Ax Ac Ad Ai Aj At Ab Aq Af xik xns xng xnn xbc_z xnc_z xfc_z) ++ ((WC Γ Ac csw cca csi cab cun csg cfa che cst) ++ ((WC Γ Ad dsw dca dsi dab dun dsg dfa dhe dst) ++ ((WC Γ Ai isw ica isi iab iun isg ifa ihe ist) ++ ((WC Γ Aj jsw jca jsi jab jun jsg jfa jhe jst) ++ ((WT Γ At tby tnu tln tat tsr ttk tnm tit tft) ++ ((WB Γ Ab blo_z bwh_z bow_z bom_z) ++ ((WQ Γ Aq qhe qbi qhv qwo qts qbb qbc qbw) ++ (WF Γ Af fab fbe))))))))) r0) (F0 m 42 ls [.int y0, .int y1, .ref (Ac 0)]) := by
  have hx := X.1
  have hb := X.2.1
  obtain ⟨r_1, ho_2, hf⟩ := bd1_some hf
  refine t_i Y (bkE Y [5, 6, 7, 8] rfl) (r_V (As := [.int y1, .int y0]) (rest := []) X (c_pre X Y [5, 6, 7, 8] rfl rfl) (cC_total ho_2) (cwX11_158 X (by decide)) (va_recv X.K Y.1 (q := (RX1, TX1, 9)) (q0 := 5) (ci := 1) rfl rfl) rfl hl.1 (Nat.le_of_ble_eq_true rfl) rfl dX11_now_42 ⟨Nat.zero_le _, Nat.zero_le _⟩) (fun H locs Y => ?_)
  obtain ⟨e90, e91, e92, e93, e94, e95, e96, e97⟩ := sj8 hf
  subst e90
  subst e91
  subst e92
  subst e93
  subst e94
  subst e95
  subst e96
  subst e97
  exact x_iret X Y dX11_now_45
def X_now (x1 : Int32) (xbc : Int32) (xnc : Int32) (xfc : Int32) (csw : Int32) (csi : Int32) (cab : Int32) (cfa : Nat → Int32) (blo : Int32) (bwh : Int32) (bow : Int32) (bom : Int32) : Option (Int32 × Int32 × Int32 × Int32 × Int32 × Int32 × Int32 × Int32) := bd1 (X_within x1 (0 : Int32) (3 : Int32)) (fun (r_1 : Int32) => if r_1 = 0 then (bd4 (X_refuse (-2 : Int32) xbc xnc xfc) (fun (r_11 : Int32) (xbc_12 : Int32) (xnc_13 : Int32) (xfc_14 : Int32) => some (r_11, xbc_12, xnc_13, xfc_14, blo, bwh, bow, bom))) else (if x1 < (2 : Int32) then (bd4 (B_reckon (-1 : Int32) blo bwh bow bom csw csi cab cfa) (fun (blo_4 : Int32) (bwh_5 : Int32) (bow_6 : Int32) (bom_7 : Int32) => if x1 = 0 then (some (blo_4, xbc, xnc, xfc, blo_4, bwh_5, bow_6, bom_7)) else (some (bwh_5, xbc, xnc, xfc, blo_4, bwh_5, bow_6, bom_7)))) else (if x1 = (2 : Int32) then (X_now_42 (3 : Int32) cab xbc xnc xfc csw csi cab cfa blo bwh bow bom) else (X_now_42 (4 : Int32) cab xbc xnc xfc csw csi cab cfa blo bwh bow bom))))
set_option maxHeartbeats 4000000 in
set_option maxRecDepth 100000 in
theorem bX_now_e {Ax : Nat → Nat} {Ac : Nat → Nat} {Ad : Nat → Nat} {Ai : Nat → Nat} {Aj : Nat → Nat} {At : Nat → Nat} {Ab : Nat → Nat} {Aq : Nat → Nat} {Af : Nat → Nat} {xik : Int32} {xns : Nat → Int32} {xng : Nat → Int32} {xnn : Nat → Int32} {xbc : Int32} {xnc : Int32} {xfc : Int32} {csw : Int32} {cca : Int32} {csi : Int32} {cab : Int32} {cun : Int32} {csg : Int32} {cfa : Nat → Int32} {che : Nat → Int32} {cst : Nat → Int32} {dsw : Int32} {dca : Int32} {dsi : Int32} {dab : Int32} {dun : Int32} {dsg : Int32} {dfa : Nat → Int32} {dhe : Nat → Int32} {dst : Nat → Int32} {isw : Int32} {ica : Int32} {isi : Int32} {iab : Int32} {iun : Int32} {isg : Int32} {ifa : Nat → Int32} {ihe : Nat → Int32} {ist : Nat → Int32} {jsw : Int32} {jca : Int32} {jsi : Int32} {jab : Int32} {jun : Int32} {jsg : Int32} {jfa : Nat → Int32} {jhe : Nat → Int32} {jst : Nat → Int32} {tby : Nat → Int32} {tnu : Nat → Int32} {tln : Int32} {tat : Int32} {tsr : Int32} {ttk : Int32} {tnm : Int32} {tit : Int32} {tft : Int32} {blo : Int32} {bwh : Int32} {bow : Int32} {bom : Int32} {qhe : Nat → Int32} {qbi : Nat → Int32} {qhv : Nat → Int32} {qwo : Nat → Int32} {qts : Int32} {qbb : Int32} {qbc : Int32} {qbw : Int32} {fab : Int64} {fbe : Int64} {xbc_z : Int32} {xnc_z : Int32} {xfc_z : Int32} {blo_z : Int32} {bwh_z : Int32} {bow_z : Int32} {bom_z : Int32} {r0 : Int32} {x1 : Int32} (X : Cx Γ p s m args meth c RX11 cX11_now 2 (some .int) w0) (hf : X_now x1 xbc xnc xfc csw csi cab cfa blo bwh bow bom = some (r0, xbc_z, xnc_z, xfc_z, blo_z, bwh_z, bow_z, bom_z)) (Y : Wd Γ w0 s ((WX Γ Ax Ac Ad Ai Aj At Ab Aq Af xik xns xng xnn xbc xnc xfc) ++ ((WC Γ Ac csw cca csi cab cun csg cfa che cst) ++ ((WC Γ Ad dsw dca dsi dab dun dsg dfa dhe dst) ++ ((WC Γ Ai isw ica isi iab iun isg ifa ihe ist) ++ ((WC Γ Aj jsw jca jsi jab jun jsg jfa jhe jst) ++ ((WT Γ At tby tnu tln tat tsr ttk tnm tit tft) ++ ((WB Γ Ab blo bwh bow bom) ++ ((WQ Γ Aq qhe qbi qhv qwo qts qbb qbc qbw) ++ (WF Γ Af fab fbe))))))))) H locs) (hl : lv_has ls 2 [(0, .ref (Ax 0)), (1, .int x1)]) : W p l e rmX_now s m args below meth c H locs 0 0 (EI Γ below args s w0 ((WX Γ Ax Ac Ad Ai Aj At Ab Aq Af xik xns xng xnn xbc_z xnc_z xfc_z) ++ ((WC Γ Ac csw cca csi cab cun csg cfa che cst) ++ ((WC Γ Ad dsw dca dsi dab dun dsg dfa dhe dst) ++ ((WC Γ Ai isw ica isi iab iun isg ifa ihe ist) ++ ((WC Γ Aj jsw jca jsi jab jun jsg jfa jhe jst) ++ ((WT Γ At tby tnu tln tat tsr ttk tnm tit tft) ++ ((WB Γ Ab blo_z bwh_z bow_z bom_z) ++ ((WQ Γ Aq qhe qbi qhv qwo qts qbb qbc qbw) ++ (WF Γ Af fab fbe))))))))) r0) (F0 m 0 ls []) := by
  have hx := X.1
  have hb := X.2.1
  refine lv_iload_n hx hb dX11_now_0 rfl (lv_at hl 1 rfl) ?_
  refine lv_iconst (v := (0 : Int32)) hx hb dX11_now_1 (by decide) ?_
  refine lv_iconst (v := (3 : Int32)) hx hb dX11_now_2 (by decide) ?_
  obtain ⟨r_1, ho_16, hf⟩ := bd1_some hf
  refine t_i Y (bk0 Y) (r_S (As := [.int x1, .int (0 : Int32), .int (3 : Int32)]) (rest := []) X (c_pre0 X Y) (cX_within ho_16) (cwX11_97 X (by decide)) rfl hl.1 (Nat.le_of_ble_eq_true rfl) rfl dX11_now_3 ⟨Nat.zero_le _, Nat.zero_le _⟩) (fun H locs Y => ?_)
  refine lv_if_ne (tgt := 16) hx hb dX11_now_6 (by decide) (fun c_2 => ?_) (fun c_2 => ?_)
  · have hf := ite_f hf c_2
    refine lv_iload_n hx hb dX11_now_16 rfl (lv_at hl 1 rfl) ?_
    refine lv_iconst (v := (2 : Int32)) hx hb dX11_now_17 (by decide) ?_
    refine lv_icmp_lt (tgt := 46) hx hb dX11_now_18 (by decide) (fun c_3 => ?_) (fun c_3 => ?_)
    · have hf := ite_t hf c_3
      refine lv_aload_n hx hb dX11_now_46 rfl (lv_at hl 0 rfl) ?_
      refine gfX11_33 X Y (v := .ref (Ab 0)) 0 rfl rfl dX11_now_47 ?_
      refine lv_aload_n hx hb dX11_now_50 rfl (lv_at hl 0 rfl) ?_
      refine gfX11_10 X Y (v := .ref (Ac 0)) 0 rfl rfl dX11_now_51 ?_
      refine lv_iconst (v := (-1 : Int32)) hx hb dX11_now_54 (by decide) ?_
      obtain ⟨blo_4, bwh_5, bow_6, bom_7, ho_9, hf⟩ := bd4_some hf
      refine t_v Y (bk Y [24, 25, 26, 27, 28, 29, 30, 31, 5, 6, 7, 8] [0, 1, 2, 3, 4, 9, 10, 11, 12, 13, 14, 15, 16, 17, 18, 19, 20, 21, 22, 23, 32, 33, 34, 35, 36, 37] [0, 1, 2, 3, 4, 34, 35, 36, 37, 5, 6, 7, 8, 9, 10, 11, 12, 13, 14, 15, 16, 17, 18, 19, 26, 27, 28, 29, 30, 31, 32, 33, 20, 21, 22, 23, 24, 25] (wr := [(Ax 0, .inr (11, [.ref (Ac 0), .ref (Ad 0), .ref (Ax 1), .int xik, .ref (At 0), .ref (Ab 0), .ref (Aq 0), .ref (Af 0), .ref (Ax 2), .ref (Ax 3), .ref (Ax 4), .int xbc, .int xnc, .int xfc])), (Ax 1, .inl (Γ.2.1 4, 2, .inr (.inr (.inr (.inr (fun j => some (if j = 0 then Ai 0 else Aj 0))))))), (Ax 2, .inl (Γ.2.1 0, 2, .inl xns)), (Ax 3, .inl (Γ.2.1 0, 6, .inl xng)), (Ax 4, .inl (Γ.2.1 0, 3, .inl xnn)), (Ad 0, .inr (1, [.int dsw, .int dca, .int dsi, .int dab, .int dun, .int dsg, .ref (Ad 1), .ref (Ad 2), .ref (Ad 3)])), (Ad 1, .inl (Γ.2.1 0, 48, .inl dfa)), (Ad 2, .inl (Γ.2.1 0, 8, .inl dhe)), (Ad 3, .inl (Γ.2.1 0, 18, .inl dst)), (Ai 0, .inr (1, [.int isw, .int ica, .int isi, .int iab, .int iun, .int isg, .ref (Ai 1), .ref (Ai 2), .ref (Ai 3)])), (Ai 1, .inl (Γ.2.1 0, 48, .inl ifa)), (Ai 2, .inl (Γ.2.1 0, 8, .inl ihe)), (Ai 3, .inl (Γ.2.1 0, 18, .inl ist)), (Aj 0, .inr (1, [.int jsw, .int jca, .int jsi, .int jab, .int jun, .int jsg, .ref (Aj 1), .ref (Aj 2), .ref (Aj 3)])), (Aj 1, .inl (Γ.2.1 0, 48, .inl jfa)), (Aj 2, .inl (Γ.2.1 0, 8, .inl jhe)), (Aj 3, .inl (Γ.2.1 0, 18, .inl jst)), (At 0, .inr (10, [.ref (At 1), .ref (At 2), .int tln, .int tat, .int tsr, .int ttk, .int tnm, .int tit, .int tft])), (At 1, .inl (Γ.2.1 1, 150, .inl tby)), (At 2, .inl (Γ.2.1 0, 6, .inl tnu)), (Aq 0, .inr (6, [.ref (Aq 1), .ref (Aq 2), .ref (Aq 3), .ref (Aq 4), .int qts, .int qbb, .int qbc, .int qbw])), (Aq 1, .inl (Γ.2.1 0, 3, .inl qhe)), (Aq 2, .inl (Γ.2.1 0, 27, .inl qbi)), (Aq 3, .inl (Γ.2.1 0, 27, .inl qhv)), (Aq 4, .inl (Γ.2.1 0, 27, .inl qwo)), (Af 0, .inr (3, [.long fab, .long fbe]))]) (ws' := ((WX Γ Ax Ac Ad Ai Aj At Ab Aq Af xik xns xng xnn xbc xnc xfc) ++ ((WC Γ Ac csw cca csi cab cun csg cfa che cst) ++ ((WC Γ Ad dsw dca dsi dab dun dsg dfa dhe dst) ++ ((WC Γ Ai isw ica isi iab iun isg ifa ihe ist) ++ ((WC Γ Aj jsw jca jsi jab jun jsg jfa jhe jst) ++ ((WT Γ At tby tnu tln tat tsr ttk tnm tit tft) ++ ((WB Γ Ab blo_4 bwh_5 bow_6 bom_7) ++ ((WQ Γ Aq qhe qbi qhv qwo qts qbb qbc qbw) ++ (WF Γ Af fab fbe)))))))))) rfl rfl rfl (by decide) rfl rfl) (r_V (As := [.ref (Ac 0), .int (-1 : Int32)]) (rest := []) X (c_pre X Y [24, 25, 26, 27, 28, 29, 30, 31, 5, 6, 7, 8] rfl rfl) (cB_reckon ho_9) (cwX11_161 X (by decide)) (va_recv X.K Y.1 (q := (RX0, TX0, 5)) (q0 := 24) (ci := 0) rfl rfl) rfl hl.1 (Nat.le_of_ble_eq_true rfl) rfl dX11_now_55 ⟨Nat.zero_le _, Nat.zero_le _⟩) (fun H locs Y => ?_)
      refine lv_iload_n hx hb dX11_now_58 rfl (lv_at hl 1 rfl) ?_
      refine lv_if_ne (tgt := 72) hx hb dX11_now_59 (by decide) (fun c_8 => ?_) (fun c_8 => ?_)
      · have hf := ite_f hf c_8
        refine lv_aload_n hx hb dX11_now_72 rfl (lv_at hl 0 rfl) ?_
        refine gfX11_33 X Y (v := .ref (Ab 0)) 0 rfl rfl dX11_now_73 ?_
        refine gfX11_168 X Y (v := .int bwh_5) 24 rfl rfl dX11_now_76 ?_
        obtain ⟨e90, e91, e92, e93, e94, e95, e96, e97⟩ := sj8 hf
        subst e90
        subst e91
        subst e92
        subst e93
        subst e94
        subst e95
        subst e96
        subst e97
        exact x_iret X Y dX11_now_79
      · have hf := ite_t hf c_8
        refine lv_aload_n hx hb dX11_now_62 rfl (lv_at hl 0 rfl) ?_
        refine gfX11_33 X Y (v := .ref (Ab 0)) 0 rfl rfl dX11_now_63 ?_
        refine gfX11_165 X Y (v := .int blo_4) 24 rfl rfl dX11_now_66 ?_
        refine lv_goto (tgt := 79) hx hb dX11_now_69 (by decide) ?_
        obtain ⟨e90, e91, e92, e93, e94, e95, e96, e97⟩ := sj8 hf
        subst e90
        subst e91
        subst e92
        subst e93
        subst e94
        subst e95
        subst e96
        subst e97
        exact x_iret X Y dX11_now_79
    · have hf := ite_f hf c_3
      refine lv_aload_n hx hb dX11_now_21 rfl (lv_at hl 0 rfl) ?_
      refine gfX11_10 X Y (v := .ref (Ac 0)) 0 rfl rfl dX11_now_22 ?_
      refine lv_aload_n hx hb dX11_now_25 rfl (lv_at hl 0 rfl) ?_
      refine gfX11_10 X Y (v := .ref (Ac 0)) 0 rfl rfl dX11_now_26 ?_
      refine gfX11_125 X Y (v := .int cab) 5 rfl rfl dX11_now_29 ?_
      refine lv_iload_n hx hb dX11_now_32 rfl (lv_at hl 1 rfl) ?_
      refine lv_iconst (v := (2 : Int32)) hx hb dX11_now_33 (by decide) ?_
      refine lv_icmp_ne (tgt := 41) hx hb dX11_now_34 (by decide) (fun c_10 => ?_) (fun c_10 => ?_)
      · have hf := ite_f hf c_10
        refine lv_iconst (v := (4 : Int32)) hx hb dX11_now_41 (by decide) ?_
        exact bX_now_42 X hf Y (lv_sub hl [] rfl)
      · have hf := ite_t hf c_10
        refine lv_iconst (v := (3 : Int32)) hx hb dX11_now_37 (by decide) ?_
        refine lv_goto (tgt := 42) hx hb dX11_now_38 (by decide) ?_
        exact bX_now_42 X hf Y (lv_sub hl [] rfl)
  · have hf := ite_t hf c_2
    refine lv_aload_n hx hb dX11_now_9 rfl (lv_at hl 0 rfl) ?_
    refine lv_bipush (v := (-2 : Int32)) hx hb dX11_now_10 (by decide) ?_
    obtain ⟨r_11, xbc_12, xnc_13, xfc_14, ho_15, hf⟩ := bd4_some hf
    refine t_i Y (bkS Y) (r_V (As := [.int (-2 : Int32)]) (rest := []) X (c_preS X Y) (cX_refuse ho_15) (cwX11_71 X (by decide)) (va_recv X.K Y.1 (q := (RX11, TX11, 14)) (q0 := 0) (ci := 11) rfl rfl) rfl hl.1 (Nat.le_of_ble_eq_true rfl) rfl dX11_now_12 ⟨Nat.zero_le _, Nat.zero_le _⟩) (fun H locs Y => ?_)
    obtain ⟨e90, e91, e92, e93, e94, e95, e96, e97⟩ := sj8 hf
    subst e90
    subst e91
    subst e92
    subst e93
    subst e94
    subst e95
    subst e96
    subst e97
    exact x_iret X Y dX11_now_15
theorem cX_now {l : Launch} {Γ : Gm} {Ax : Nat → Nat} {Ac : Nat → Nat} {Ad : Nat → Nat} {Ai : Nat → Nat} {Aj : Nat → Nat} {At : Nat → Nat} {Ab : Nat → Nat} {Aq : Nat → Nat} {Af : Nat → Nat} {xik : Int32} {xns : Nat → Int32} {xng : Nat → Int32} {xnn : Nat → Int32} {xbc : Int32} {xnc : Int32} {xfc : Int32} {csw : Int32} {cca : Int32} {csi : Int32} {cab : Int32} {cun : Int32} {csg : Int32} {cfa : Nat → Int32} {che : Nat → Int32} {cst : Nat → Int32} {dsw : Int32} {dca : Int32} {dsi : Int32} {dab : Int32} {dun : Int32} {dsg : Int32} {dfa : Nat → Int32} {dhe : Nat → Int32} {dst : Nat → Int32} {isw : Int32} {ica : Int32} {isi : Int32} {iab : Int32} {iun : Int32} {isg : Int32} {ifa : Nat → Int32} {ihe : Nat → Int32} {ist : Nat → Int32} {jsw : Int32} {jca : Int32} {jsi : Int32} {jab : Int32} {jun : Int32} {jsg : Int32} {jfa : Nat → Int32} {jhe : Nat → Int32} {jst : Nat → Int32} {tby : Nat → Int32} {tnu : Nat → Int32} {tln : Int32} {tat : Int32} {tsr : Int32} {ttk : Int32} {tnm : Int32} {tit : Int32} {tft : Int32} {blo : Int32} {bwh : Int32} {bow : Int32} {bom : Int32} {qhe : Nat → Int32} {qbi : Nat → Int32} {qhv : Nat → Int32} {qwo : Nat → Int32} {qts : Int32} {qbb : Int32} {qbc : Int32} {qbw : Int32} {fab : Int64} {fbe : Int64} {xbc_z : Int32} {xnc_z : Int32} {xfc_z : Int32} {blo_z : Int32} {bwh_z : Int32} {bow_z : Int32} {bom_z : Int32} {r0 : Int32} {x1 : Int32} (h : X_now x1 xbc xnc xfc csw csi cab cfa blo bwh bow bom = some (r0, xbc_z, xnc_z, xfc_z, blo_z, bwh_z, bow_z, bom_z)) : CI l Γ yX11_now (Cond.code yX11_now cX11_now 2 (some .int) :: GW) rmX_now [.ref (Ax 0), .int x1] ((WX Γ Ax Ac Ad Ai Aj At Ab Aq Af xik xns xng xnn xbc xnc xfc) ++ ((WC Γ Ac csw cca csi cab cun csg cfa che cst) ++ ((WC Γ Ad dsw dca dsi dab dun dsg dfa dhe dst) ++ ((WC Γ Ai isw ica isi iab iun isg ifa ihe ist) ++ ((WC Γ Aj jsw jca jsi jab jun jsg jfa jhe jst) ++ ((WT Γ At tby tnu tln tat tsr ttk tnm tit tft) ++ ((WB Γ Ab blo bwh bow bom) ++ ((WQ Γ Aq qhe qbi qhv qwo qts qbb qbc qbw) ++ (WF Γ Af fab fbe))))))))) ((WX Γ Ax Ac Ad Ai Aj At Ab Aq Af xik xns xng xnn xbc_z xnc_z xfc_z) ++ ((WC Γ Ac csw cca csi cab cun csg cfa che cst) ++ ((WC Γ Ad dsw dca dsi dab dun dsg dfa dhe dst) ++ ((WC Γ Ai isw ica isi iab iun isg ifa ihe ist) ++ ((WC Γ Aj jsw jca jsi jab jun jsg jfa jhe jst) ++ ((WT Γ At tby tnu tln tat tsr ttk tnm tit tft) ++ ((WB Γ Ab blo_z bwh_z bow_z bom_z) ++ ((WQ Γ Aq qhe qbi qhv qwo qts qbb qbc qbw) ++ (WF Γ Af fab fbe))))))))) r0 := ofBody (Qc := QcI Γ _ _ r0) (by decide) (Nat.le_of_ble_eq_true rfl) (fun p e s m below meth c ls _ X Y hl => bX_now_e X h Y hl)
theorem gfX11_47 (X : Cx Γ p s m args meth c RX11 cc nL ret w0) (Y : Wd Γ w0 s ws H locs) {v : Value} (q0 : Nat) {fs : List Value} (he : ws[q0]? = some (a, .inr (11, fs))) (hv : fs[7]? = some v) (hdg : decode cc pc = .ok (.getfield 47, 3)) (kk : W p l e R s m args below meth c H locs cells slots Q (F0 m (pc + 3) ls (v :: rest))) : W p l e R s m args below meth c H locs cells slots Q (F0 m pc ls (.ref a :: rest)) := x_get X Y iX11 rfl 7 (by decide) rfl kw563 q0 he hv hdg kk
theorem dmX3_becomeV : yX3_become.cls = RX3 ∧ yX3_become.cls ≠ "java/lang/invoke/MethodHandle" ∧ yX3_become.cls ≠ "java/lang/invoke/VarHandle" ∧ (parseMethodDescriptor yX3_become.desc).map (fun d => d.parameters.length) = some 2 := by decide +kernel
theorem cwX11_178 (X : Cx Γ p s m args meth c RX11 cc nL ret w0) (hR : rmF_become.frames + 1 ≤ R.frames ∧ 8 + (7 + 11) + rmF_become.locals ≤ R.locals) : CallW R s args RX11 RX3 178 yX3_become cX3_become 7 none (Cond.code yX3_become cX3_become 7 none :: GW) rmF_become 0 0 2 := cw_V X kw564 kw565 kw566 kw360 kw567 dmX3_becomeV rfl rfl hR
theorem cwX11_175 (X : Cx Γ p s m args meth c RX11 cc nL ret w0) (hR : rmB_below.frames + 1 ≤ R.frames ∧ 8 + (1 + 11) + rmB_below.locals ≤ R.locals) : CallW R s args RX11 RX0 175 yX0_below cX0_below 1 (some .long) (Cond.code yX0_below cX0_below 1 (some .long) :: GW) rmB_below 0 0 0 := cw_V X kw568 kw345 kw346 kw333 kw347 dmX0_belowV rfl rfl hR
theorem cwX11_171 (X : Cx Γ p s m args meth c RX11 cc nL ret w0) (hR : rmB_shareAbove.frames + 1 ≤ R.frames ∧ 8 + (1 + 11) + rmB_shareAbove.locals ≤ R.locals) : CallW R s args RX11 RX0 171 yX0_shareAbove cX0_shareAbove 1 (some .long) (Cond.code yX0_shareAbove cX0_shareAbove 1 (some .long) :: GW) rmB_shareAbove 0 0 0 := cw_V X kw569 kw349 kw350 kw333 kw351 dmX0_shareAboveV rfl rfl hR
def rmX_share : Room := { frames := 5, cells := 0, slots := 0, locals := 117 }
def X_share (x1 : Int32) (xbc : Int32) (xnc : Int32) (xfc : Int32) (csw : Int32) (csi : Int32) (cab : Int32) (cfa : Nat → Int32) (blo : Int32) (bwh : Int32) (bow : Int32) (bom : Int32) (fab : Int64) (fbe : Int64) : Option (Int32 × Int32 × Int32 × Int32 × Int32 × Int32 × Int32 × Int32 × Int64 × Int64) := bd1 (X_within x1 (0 : Int32) (4 : Int32)) (fun (r_1 : Int32) => if r_1 = 0 then (bd4 (X_refuse (-2 : Int32) xbc xnc xfc) (fun (r_15 : Int32) (xbc_16 : Int32) (xnc_17 : Int32) (xfc_18 : Int32) => some (r_15, xbc_16, xnc_17, xfc_18, blo, bwh, bow, bom, fab, fbe))) else (bd4 (B_reckon x1 blo bwh bow bom csw csi cab cfa) (fun (blo_3 : Int32) (bwh_4 : Int32) (bow_5 : Int32) (bom_6 : Int32) => bd1 (B_shareAbove blo_3 bow_5) (fun (r_7 : Int64) => bd1 (B_below bwh_4) (fun (r_8 : Int64) => bd2 (F_become r_7 r_8 fab fbe) (fun (fab_9 : Int64) (fbe_10 : Int64) => some ((1 : Int32), xbc, xnc, xfc, blo_3, bwh_4, bow_5, bom_6, fab_9, fbe_10)))))))
set_option maxHeartbeats 4000000 in
set_option maxRecDepth 100000 in
theorem bX_share_e {Ax : Nat → Nat} {Ac : Nat → Nat} {Ad : Nat → Nat} {Ai : Nat → Nat} {Aj : Nat → Nat} {At : Nat → Nat} {Ab : Nat → Nat} {Aq : Nat → Nat} {Af : Nat → Nat} {xik : Int32} {xns : Nat → Int32} {xng : Nat → Int32} {xnn : Nat → Int32} {xbc : Int32} {xnc : Int32} {xfc : Int32} {csw : Int32} {cca : Int32} {csi : Int32} {cab : Int32} {cun : Int32} {csg : Int32} {cfa : Nat → Int32} {che : Nat → Int32} {cst : Nat → Int32} {dsw : Int32} {dca : Int32} {dsi : Int32} {dab : Int32} {dun : Int32} {dsg : Int32} {dfa : Nat → Int32} {dhe : Nat → Int32} {dst : Nat → Int32} {isw : Int32} {ica : Int32} {isi : Int32} {iab : Int32} {iun : Int32} {isg : Int32} {ifa : Nat → Int32} {ihe : Nat → Int32} {ist : Nat → Int32} {jsw : Int32} {jca : Int32} {jsi : Int32} {jab : Int32} {jun : Int32} {jsg : Int32} {jfa : Nat → Int32} {jhe : Nat → Int32} {jst : Nat → Int32} {tby : Nat → Int32} {tnu : Nat → Int32} {tln : Int32} {tat : Int32} {tsr : Int32} {ttk : Int32} {tnm : Int32} {tit : Int32} {tft : Int32} {blo : Int32} {bwh : Int32} {bow : Int32} {bom : Int32} {qhe : Nat → Int32} {qbi : Nat → Int32} {qhv : Nat → Int32} {qwo : Nat → Int32} {qts : Int32} {qbb : Int32} {qbc : Int32} {qbw : Int32} {fab : Int64} {fbe : Int64} {xbc_z : Int32} {xnc_z : Int32} {xfc_z : Int32} {blo_z : Int32} {bwh_z : Int32} {bow_z : Int32} {bom_z : Int32} {fab_z : Int64} {fbe_z : Int64} {r0 : Int32} {x1 : Int32} (X : Cx Γ p s m args meth c RX11 cX11_share 2 (some .int) w0) (hf : X_share x1 xbc xnc xfc csw csi cab cfa blo bwh bow bom fab fbe = some (r0, xbc_z, xnc_z, xfc_z, blo_z, bwh_z, bow_z, bom_z, fab_z, fbe_z)) (Y : Wd Γ w0 s ((WX Γ Ax Ac Ad Ai Aj At Ab Aq Af xik xns xng xnn xbc xnc xfc) ++ ((WC Γ Ac csw cca csi cab cun csg cfa che cst) ++ ((WC Γ Ad dsw dca dsi dab dun dsg dfa dhe dst) ++ ((WC Γ Ai isw ica isi iab iun isg ifa ihe ist) ++ ((WC Γ Aj jsw jca jsi jab jun jsg jfa jhe jst) ++ ((WT Γ At tby tnu tln tat tsr ttk tnm tit tft) ++ ((WB Γ Ab blo bwh bow bom) ++ ((WQ Γ Aq qhe qbi qhv qwo qts qbb qbc qbw) ++ (WF Γ Af fab fbe))))))))) H locs) (hl : lv_has ls 2 [(0, .ref (Ax 0)), (1, .int x1)]) : W p l e rmX_share s m args below meth c H locs 0 0 (EI Γ below args s w0 ((WX Γ Ax Ac Ad Ai Aj At Ab Aq Af xik xns xng xnn xbc_z xnc_z xfc_z) ++ ((WC Γ Ac csw cca csi cab cun csg cfa che cst) ++ ((WC Γ Ad dsw dca dsi dab dun dsg dfa dhe dst) ++ ((WC Γ Ai isw ica isi iab iun isg ifa ihe ist) ++ ((WC Γ Aj jsw jca jsi jab jun jsg jfa jhe jst) ++ ((WT Γ At tby tnu tln tat tsr ttk tnm tit tft) ++ ((WB Γ Ab blo_z bwh_z bow_z bom_z) ++ ((WQ Γ Aq qhe qbi qhv qwo qts qbb qbc qbw) ++ (WF Γ Af fab_z fbe_z))))))))) r0) (F0 m 0 ls []) := by
  have hx := X.1
  have hb := X.2.1
  refine lv_iload_n hx hb dX11_share_0 rfl (lv_at hl 1 rfl) ?_
  refine lv_iconst (v := (0 : Int32)) hx hb dX11_share_1 (by decide) ?_
  refine lv_iconst (v := (4 : Int32)) hx hb dX11_share_2 (by decide) ?_
  obtain ⟨r_1, ho_20, hf⟩ := bd1_some hf
  refine t_i Y (bk0 Y) (r_S (As := [.int x1, .int (0 : Int32), .int (4 : Int32)]) (rest := []) X (c_pre0 X Y) (cX_within ho_20) (cwX11_97 X (by decide)) rfl hl.1 (Nat.le_of_ble_eq_true rfl) rfl dX11_share_3 ⟨Nat.zero_le _, Nat.zero_le _⟩) (fun H locs Y => ?_)
  refine lv_if_ne (tgt := 16) hx hb dX11_share_6 (by decide) (fun c_2 => ?_) (fun c_2 => ?_)
  · have hf := ite_f hf c_2
    refine lv_aload_n hx hb dX11_share_16 rfl (lv_at hl 0 rfl) ?_
    refine gfX11_33 X Y (v := .ref (Ab 0)) 0 rfl rfl dX11_share_17 ?_
    refine lv_aload_n hx hb dX11_share_20 rfl (lv_at hl 0 rfl) ?_
    refine gfX11_10 X Y (v := .ref (Ac 0)) 0 rfl rfl dX11_share_21 ?_
    refine lv_iload_n hx hb dX11_share_24 rfl (lv_at hl 1 rfl) ?_
    obtain ⟨blo_3, bwh_4, bow_5, bom_6, ho_14, hf⟩ := bd4_some hf
    refine t_v Y (bk Y [24, 25, 26, 27, 28, 29, 30, 31, 5, 6, 7, 8] [0, 1, 2, 3, 4, 9, 10, 11, 12, 13, 14, 15, 16, 17, 18, 19, 20, 21, 22, 23, 32, 33, 34, 35, 36, 37] [0, 1, 2, 3, 4, 34, 35, 36, 37, 5, 6, 7, 8, 9, 10, 11, 12, 13, 14, 15, 16, 17, 18, 19, 26, 27, 28, 29, 30, 31, 32, 33, 20, 21, 22, 23, 24, 25] (wr := [(Ax 0, .inr (11, [.ref (Ac 0), .ref (Ad 0), .ref (Ax 1), .int xik, .ref (At 0), .ref (Ab 0), .ref (Aq 0), .ref (Af 0), .ref (Ax 2), .ref (Ax 3), .ref (Ax 4), .int xbc, .int xnc, .int xfc])), (Ax 1, .inl (Γ.2.1 4, 2, .inr (.inr (.inr (.inr (fun j => some (if j = 0 then Ai 0 else Aj 0))))))), (Ax 2, .inl (Γ.2.1 0, 2, .inl xns)), (Ax 3, .inl (Γ.2.1 0, 6, .inl xng)), (Ax 4, .inl (Γ.2.1 0, 3, .inl xnn)), (Ad 0, .inr (1, [.int dsw, .int dca, .int dsi, .int dab, .int dun, .int dsg, .ref (Ad 1), .ref (Ad 2), .ref (Ad 3)])), (Ad 1, .inl (Γ.2.1 0, 48, .inl dfa)), (Ad 2, .inl (Γ.2.1 0, 8, .inl dhe)), (Ad 3, .inl (Γ.2.1 0, 18, .inl dst)), (Ai 0, .inr (1, [.int isw, .int ica, .int isi, .int iab, .int iun, .int isg, .ref (Ai 1), .ref (Ai 2), .ref (Ai 3)])), (Ai 1, .inl (Γ.2.1 0, 48, .inl ifa)), (Ai 2, .inl (Γ.2.1 0, 8, .inl ihe)), (Ai 3, .inl (Γ.2.1 0, 18, .inl ist)), (Aj 0, .inr (1, [.int jsw, .int jca, .int jsi, .int jab, .int jun, .int jsg, .ref (Aj 1), .ref (Aj 2), .ref (Aj 3)])), (Aj 1, .inl (Γ.2.1 0, 48, .inl jfa)), (Aj 2, .inl (Γ.2.1 0, 8, .inl jhe)), (Aj 3, .inl (Γ.2.1 0, 18, .inl jst)), (At 0, .inr (10, [.ref (At 1), .ref (At 2), .int tln, .int tat, .int tsr, .int ttk, .int tnm, .int tit, .int tft])), (At 1, .inl (Γ.2.1 1, 150, .inl tby)), (At 2, .inl (Γ.2.1 0, 6, .inl tnu)), (Aq 0, .inr (6, [.ref (Aq 1), .ref (Aq 2), .ref (Aq 3), .ref (Aq 4), .int qts, .int qbb, .int qbc, .int qbw])), (Aq 1, .inl (Γ.2.1 0, 3, .inl qhe)), (Aq 2, .inl (Γ.2.1 0, 27, .inl qbi)), (Aq 3, .inl (Γ.2.1 0, 27, .inl qhv)), (Aq 4, .inl (Γ.2.1 0, 27, .inl qwo)), (Af 0, .inr (3, [.long fab, .long fbe]))]) (ws' := ((WX Γ Ax Ac Ad Ai Aj At Ab Aq Af xik xns xng xnn xbc xnc xfc) ++ ((WC Γ Ac csw cca csi cab cun csg cfa che cst) ++ ((WC Γ Ad dsw dca dsi dab dun dsg dfa dhe dst) ++ ((WC Γ Ai isw ica isi iab iun isg ifa ihe ist) ++ ((WC Γ Aj jsw jca jsi jab jun jsg jfa jhe jst) ++ ((WT Γ At tby tnu tln tat tsr ttk tnm tit tft) ++ ((WB Γ Ab blo_3 bwh_4 bow_5 bom_6) ++ ((WQ Γ Aq qhe qbi qhv qwo qts qbb qbc qbw) ++ (WF Γ Af fab fbe)))))))))) rfl rfl rfl (by decide) rfl rfl) (r_V (As := [.ref (Ac 0), .int x1]) (rest := []) X (c_pre X Y [24, 25, 26, 27, 28, 29, 30, 31, 5, 6, 7, 8] rfl rfl) (cB_reckon ho_14) (cwX11_161 X (by decide)) (va_recv X.K Y.1 (q := (RX0, TX0, 5)) (q0 := 24) (ci := 0) rfl rfl) rfl hl.1 (Nat.le_of_ble_eq_true rfl) rfl dX11_share_25 ⟨Nat.zero_le _, Nat.zero_le _⟩) (fun H locs Y => ?_)
    refine lv_aload_n hx hb dX11_share_28 rfl (lv_at hl 0 rfl) ?_
    refine gfX11_47 X Y (v := .ref (Af 0)) 0 rfl rfl dX11_share_29 ?_
    refine lv_aload_n hx hb dX11_share_32 rfl (lv_at hl 0 rfl) ?_
    refine gfX11_33 X Y (v := .ref (Ab 0)) 0 rfl rfl dX11_share_33 ?_
    obtain ⟨r_7, ho_13, hf⟩ := bd1_some hf
    refine t_l Y (bkE Y [24, 25, 26, 27, 28, 29, 30, 31] rfl) (r_V (As := []) (rest := [.ref (Af 0)]) X (c_pre X Y [24, 25, 26, 27, 28, 29, 30, 31] rfl rfl) (cB_shareAbove ho_13) (cwX11_171 X (by decide)) (va_recv X.K Y.1 (q := (RX0, TX0, 5)) (q0 := 24) (ci := 0) rfl rfl) rfl hl.1 (Nat.le_of_ble_eq_true rfl) rfl dX11_share_36 ⟨Nat.zero_le _, Nat.zero_le _⟩) (fun H locs Y => ?_)
    refine lv_aload_n hx hb dX11_share_39 rfl (lv_at hl 0 rfl) ?_
    refine gfX11_33 X Y (v := .ref (Ab 0)) 0 rfl rfl dX11_share_40 ?_
    obtain ⟨r_8, ho_12, hf⟩ := bd1_some hf
    refine t_l Y (bkE Y [24, 25, 26, 27, 28, 29, 30, 31] rfl) (r_V (As := []) (rest := [.long r_7, .ref (Af 0)]) X (c_pre X Y [24, 25, 26, 27, 28, 29, 30, 31] rfl rfl) (cB_below ho_12) (cwX11_175 X (by decide)) (va_recv X.K Y.1 (q := (RX0, TX0, 5)) (q0 := 24) (ci := 0) rfl rfl) rfl hl.1 (Nat.le_of_ble_eq_true rfl) rfl dX11_share_43 ⟨Nat.zero_le _, Nat.zero_le _⟩) (fun H locs Y => ?_)
    obtain ⟨fab_9, fbe_10, ho_11, hf⟩ := bd2_some hf
    refine t_v Y (bk Y [37] [0, 1, 2, 3, 4, 5, 6, 7, 8, 9, 10, 11, 12, 13, 14, 15, 16, 17, 18, 19, 20, 21, 22, 23, 24, 25, 26, 27, 28, 29, 30, 31, 32, 33, 34, 35, 36] [0, 1, 2, 3, 4, 5, 6, 7, 8, 9, 10, 11, 12, 13, 14, 15, 16, 17, 18, 19, 20, 21, 22, 23, 24, 25, 26, 27, 28, 29, 30, 31, 32, 33, 34, 35, 36, 37] (wr := [(Ax 0, .inr (11, [.ref (Ac 0), .ref (Ad 0), .ref (Ax 1), .int xik, .ref (At 0), .ref (Ab 0), .ref (Aq 0), .ref (Af 0), .ref (Ax 2), .ref (Ax 3), .ref (Ax 4), .int xbc, .int xnc, .int xfc])), (Ax 1, .inl (Γ.2.1 4, 2, .inr (.inr (.inr (.inr (fun j => some (if j = 0 then Ai 0 else Aj 0))))))), (Ax 2, .inl (Γ.2.1 0, 2, .inl xns)), (Ax 3, .inl (Γ.2.1 0, 6, .inl xng)), (Ax 4, .inl (Γ.2.1 0, 3, .inl xnn)), (Ac 0, .inr (1, [.int csw, .int cca, .int csi, .int cab, .int cun, .int csg, .ref (Ac 1), .ref (Ac 2), .ref (Ac 3)])), (Ac 1, .inl (Γ.2.1 0, 48, .inl cfa)), (Ac 2, .inl (Γ.2.1 0, 8, .inl che)), (Ac 3, .inl (Γ.2.1 0, 18, .inl cst)), (Ad 0, .inr (1, [.int dsw, .int dca, .int dsi, .int dab, .int dun, .int dsg, .ref (Ad 1), .ref (Ad 2), .ref (Ad 3)])), (Ad 1, .inl (Γ.2.1 0, 48, .inl dfa)), (Ad 2, .inl (Γ.2.1 0, 8, .inl dhe)), (Ad 3, .inl (Γ.2.1 0, 18, .inl dst)), (Ai 0, .inr (1, [.int isw, .int ica, .int isi, .int iab, .int iun, .int isg, .ref (Ai 1), .ref (Ai 2), .ref (Ai 3)])), (Ai 1, .inl (Γ.2.1 0, 48, .inl ifa)), (Ai 2, .inl (Γ.2.1 0, 8, .inl ihe)), (Ai 3, .inl (Γ.2.1 0, 18, .inl ist)), (Aj 0, .inr (1, [.int jsw, .int jca, .int jsi, .int jab, .int jun, .int jsg, .ref (Aj 1), .ref (Aj 2), .ref (Aj 3)])), (Aj 1, .inl (Γ.2.1 0, 48, .inl jfa)), (Aj 2, .inl (Γ.2.1 0, 8, .inl jhe)), (Aj 3, .inl (Γ.2.1 0, 18, .inl jst)), (At 0, .inr (10, [.ref (At 1), .ref (At 2), .int tln, .int tat, .int tsr, .int ttk, .int tnm, .int tit, .int tft])), (At 1, .inl (Γ.2.1 1, 150, .inl tby)), (At 2, .inl (Γ.2.1 0, 6, .inl tnu)), (Ab 0, .inr (0, [.ref (Ab 1), .int blo_3, .int bwh_4, .int bow_5, .int bom_6])), (Ab 1, .inl (Γ.2.1 3, 6, .inr (.inr (.inr (.inr (fun j => some (Ab (2 + j)))))))), (Ab 2, .inr (8, [])), (Ab 3, .inr (2, [])), (Ab 4, .inr (5, [])), (Ab 5, .inr (9, [])), (Ab 6, .inr (7, [])), (Ab 7, .inr (4, [])), (Aq 0, .inr (6, [.ref (Aq 1), .ref (Aq 2), .ref (Aq 3), .ref (Aq 4), .int qts, .int qbb, .int qbc, .int qbw])), (Aq 1, .inl (Γ.2.1 0, 3, .inl qhe)), (Aq 2, .inl (Γ.2.1 0, 27, .inl qbi)), (Aq 3, .inl (Γ.2.1 0, 27, .inl qhv)), (Aq 4, .inl (Γ.2.1 0, 27, .inl qwo))]) (ws' := ((WX Γ Ax Ac Ad Ai Aj At Ab Aq Af xik xns xng xnn xbc xnc xfc) ++ ((WC Γ Ac csw cca csi cab cun csg cfa che cst) ++ ((WC Γ Ad dsw dca dsi dab dun dsg dfa dhe dst) ++ ((WC Γ Ai isw ica isi iab iun isg ifa ihe ist) ++ ((WC Γ Aj jsw jca jsi jab jun jsg jfa jhe jst) ++ ((WT Γ At tby tnu tln tat tsr ttk tnm tit tft) ++ ((WB Γ Ab blo_3 bwh_4 bow_5 bom_6) ++ ((WQ Γ Aq qhe qbi qhv qwo qts qbb qbc qbw) ++ (WF Γ Af fab_9 fbe_10)))))))))) rfl rfl rfl (by decide) rfl rfl) (r_V (As := [.long r_7, .long r_8]) (rest := []) X (c_pre X Y [37] rfl rfl) (cF_become ho_11) (cwX11_178 X (by decide)) (va_recv X.K Y.1 (q := (RX3, TX3, 2)) (q0 := 37) (ci := 3) rfl rfl) rfl hl.1 (Nat.le_of_ble_eq_true rfl) rfl dX11_share_46 ⟨Nat.zero_le _, Nat.zero_le _⟩) (fun H locs Y => ?_)
    refine lv_iconst (v := (1 : Int32)) hx hb dX11_share_49 (by decide) ?_
    obtain ⟨e90, e91, e92, e93, e94, e95, e96, e97, e98, e99⟩ := sj10 hf
    subst e90
    subst e91
    subst e92
    subst e93
    subst e94
    subst e95
    subst e96
    subst e97
    subst e98
    subst e99
    exact x_iret X Y dX11_share_50
  · have hf := ite_t hf c_2
    refine lv_aload_n hx hb dX11_share_9 rfl (lv_at hl 0 rfl) ?_
    refine lv_bipush (v := (-2 : Int32)) hx hb dX11_share_10 (by decide) ?_
    obtain ⟨r_15, xbc_16, xnc_17, xfc_18, ho_19, hf⟩ := bd4_some hf
    refine t_i Y (bkS Y) (r_V (As := [.int (-2 : Int32)]) (rest := []) X (c_preS X Y) (cX_refuse ho_19) (cwX11_71 X (by decide)) (va_recv X.K Y.1 (q := (RX11, TX11, 14)) (q0 := 0) (ci := 11) rfl rfl) rfl hl.1 (Nat.le_of_ble_eq_true rfl) rfl dX11_share_12 ⟨Nat.zero_le _, Nat.zero_le _⟩) (fun H locs Y => ?_)
    obtain ⟨e90, e91, e92, e93, e94, e95, e96, e97, e98, e99⟩ := sj10 hf
    subst e90
    subst e91
    subst e92
    subst e93
    subst e94
    subst e95
    subst e96
    subst e97
    subst e98
    subst e99
    exact x_iret X Y dX11_share_15
theorem cX_share {l : Launch} {Γ : Gm} {Ax : Nat → Nat} {Ac : Nat → Nat} {Ad : Nat → Nat} {Ai : Nat → Nat} {Aj : Nat → Nat} {At : Nat → Nat} {Ab : Nat → Nat} {Aq : Nat → Nat} {Af : Nat → Nat} {xik : Int32} {xns : Nat → Int32} {xng : Nat → Int32} {xnn : Nat → Int32} {xbc : Int32} {xnc : Int32} {xfc : Int32} {csw : Int32} {cca : Int32} {csi : Int32} {cab : Int32} {cun : Int32} {csg : Int32} {cfa : Nat → Int32} {che : Nat → Int32} {cst : Nat → Int32} {dsw : Int32} {dca : Int32} {dsi : Int32} {dab : Int32} {dun : Int32} {dsg : Int32} {dfa : Nat → Int32} {dhe : Nat → Int32} {dst : Nat → Int32} {isw : Int32} {ica : Int32} {isi : Int32} {iab : Int32} {iun : Int32} {isg : Int32} {ifa : Nat → Int32} {ihe : Nat → Int32} {ist : Nat → Int32} {jsw : Int32} {jca : Int32} {jsi : Int32} {jab : Int32} {jun : Int32} {jsg : Int32} {jfa : Nat → Int32} {jhe : Nat → Int32} {jst : Nat → Int32} {tby : Nat → Int32} {tnu : Nat → Int32} {tln : Int32} {tat : Int32} {tsr : Int32} {ttk : Int32} {tnm : Int32} {tit : Int32} {tft : Int32} {blo : Int32} {bwh : Int32} {bow : Int32} {bom : Int32} {qhe : Nat → Int32} {qbi : Nat → Int32} {qhv : Nat → Int32} {qwo : Nat → Int32} {qts : Int32} {qbb : Int32} {qbc : Int32} {qbw : Int32} {fab : Int64} {fbe : Int64} {xbc_z : Int32} {xnc_z : Int32} {xfc_z : Int32} {blo_z : Int32} {bwh_z : Int32} {bow_z : Int32} {bom_z : Int32} {fab_z : Int64} {fbe_z : Int64} {r0 : Int32} {x1 : Int32} (h : X_share x1 xbc xnc xfc csw csi cab cfa blo bwh bow bom fab fbe = some (r0, xbc_z, xnc_z, xfc_z, blo_z, bwh_z, bow_z, bom_z, fab_z, fbe_z)) : CI l Γ yX11_share (Cond.code yX11_share cX11_share 2 (some .int) :: GW) rmX_share [.ref (Ax 0), .int x1] ((WX Γ Ax Ac Ad Ai Aj At Ab Aq Af xik xns xng xnn xbc xnc xfc) ++ ((WC Γ Ac csw cca csi cab cun csg cfa che cst) ++ ((WC Γ Ad dsw dca dsi dab dun dsg dfa dhe dst) ++ ((WC Γ Ai isw ica isi iab iun isg ifa ihe ist) ++ ((WC Γ Aj jsw jca jsi jab jun jsg jfa jhe jst) ++ ((WT Γ At tby tnu tln tat tsr ttk tnm tit tft) ++ ((WB Γ Ab blo bwh bow bom) ++ ((WQ Γ Aq qhe qbi qhv qwo qts qbb qbc qbw) ++ (WF Γ Af fab fbe))))))))) ((WX Γ Ax Ac Ad Ai Aj At Ab Aq Af xik xns xng xnn xbc_z xnc_z xfc_z) ++ ((WC Γ Ac csw cca csi cab cun csg cfa che cst) ++ ((WC Γ Ad dsw dca dsi dab dun dsg dfa dhe dst) ++ ((WC Γ Ai isw ica isi iab iun isg ifa ihe ist) ++ ((WC Γ Aj jsw jca jsi jab jun jsg jfa jhe jst) ++ ((WT Γ At tby tnu tln tat tsr ttk tnm tit tft) ++ ((WB Γ Ab blo_z bwh_z bow_z bom_z) ++ ((WQ Γ Aq qhe qbi qhv qwo qts qbb qbc qbw) ++ (WF Γ Af fab_z fbe_z))))))))) r0 := ofBody (Qc := QcI Γ _ _ r0) (by decide) (Nat.le_of_ble_eq_true rfl) (fun p e s m below meth c ls _ X Y hl => bX_share_e X h Y hl)
theorem dmX0_netAboveV : yX0_netAbove.cls = RX0 ∧ yX0_netAbove.cls ≠ "java/lang/invoke/MethodHandle" ∧ yX0_netAbove.cls ≠ "java/lang/invoke/VarHandle" ∧ (parseMethodDescriptor yX0_netAbove.desc).map (fun d => d.parameters.length) = some 0 := by decide +kernel
theorem cwX11_181 (X : Cx Γ p s m args meth c RX11 cc nL ret w0) (hR : rmB_netAbove.frames + 1 ≤ R.frames ∧ 8 + (1 + 11) + rmB_netAbove.locals ≤ R.locals) : CallW R s args RX11 RX0 181 yX0_netAbove cX0_netAbove 1 (some .long) (Cond.code yX0_netAbove cX0_netAbove 1 (some .long) :: GW) rmB_netAbove 0 0 0 := cw_V X kw570 kw571 kw572 kw333 kw573 dmX0_netAboveV rfl rfl hR
def rmX_net : Room := { frames := 5, cells := 0, slots := 0, locals := 117 }
def X_net (x1 : Int32) (xbc : Int32) (xnc : Int32) (xfc : Int32) (csw : Int32) (csi : Int32) (cab : Int32) (cfa : Nat → Int32) (blo : Int32) (bwh : Int32) (bow : Int32) (bom : Int32) (fab : Int64) (fbe : Int64) : Option (Int32 × Int32 × Int32 × Int32 × Int32 × Int32 × Int32 × Int32 × Int64 × Int64) := bd1 (X_within x1 (0 : Int32) (3 : Int32)) (fun (r_1 : Int32) => if r_1 = 0 then (bd4 (X_refuse (-2 : Int32) xbc xnc xfc) (fun (r_15 : Int32) (xbc_16 : Int32) (xnc_17 : Int32) (xfc_18 : Int32) => some (r_15, xbc_16, xnc_17, xfc_18, blo, bwh, bow, bom, fab, fbe))) else (bd4 (B_reckon x1 blo bwh bow bom csw csi cab cfa) (fun (blo_3 : Int32) (bwh_4 : Int32) (bow_5 : Int32) (bom_6 : Int32) => bd1 (B_netAbove blo_3 bwh_4 bow_5 bom_6) (fun (r_7 : Int64) => bd1 (B_below bwh_4) (fun (r_8 : Int64) => bd2 (F_become r_7 r_8 fab fbe) (fun (fab_9 : Int64) (fbe_10 : Int64) => some ((1 : Int32), xbc, xnc, xfc, blo_3, bwh_4, bow_5, bom_6, fab_9, fbe_10)))))))
set_option maxHeartbeats 4000000 in
set_option maxRecDepth 100000 in
theorem bX_net_e {Ax : Nat → Nat} {Ac : Nat → Nat} {Ad : Nat → Nat} {Ai : Nat → Nat} {Aj : Nat → Nat} {At : Nat → Nat} {Ab : Nat → Nat} {Aq : Nat → Nat} {Af : Nat → Nat} {xik : Int32} {xns : Nat → Int32} {xng : Nat → Int32} {xnn : Nat → Int32} {xbc : Int32} {xnc : Int32} {xfc : Int32} {csw : Int32} {cca : Int32} {csi : Int32} {cab : Int32} {cun : Int32} {csg : Int32} {cfa : Nat → Int32} {che : Nat → Int32} {cst : Nat → Int32} {dsw : Int32} {dca : Int32} {dsi : Int32} {dab : Int32} {dun : Int32} {dsg : Int32} {dfa : Nat → Int32} {dhe : Nat → Int32} {dst : Nat → Int32} {isw : Int32} {ica : Int32} {isi : Int32} {iab : Int32} {iun : Int32} {isg : Int32} {ifa : Nat → Int32} {ihe : Nat → Int32} {ist : Nat → Int32} {jsw : Int32} {jca : Int32} {jsi : Int32} {jab : Int32} {jun : Int32} {jsg : Int32} {jfa : Nat → Int32} {jhe : Nat → Int32} {jst : Nat → Int32} {tby : Nat → Int32} {tnu : Nat → Int32} {tln : Int32} {tat : Int32} {tsr : Int32} {ttk : Int32} {tnm : Int32} {tit : Int32} {tft : Int32} {blo : Int32} {bwh : Int32} {bow : Int32} {bom : Int32} {qhe : Nat → Int32} {qbi : Nat → Int32} {qhv : Nat → Int32} {qwo : Nat → Int32} {qts : Int32} {qbb : Int32} {qbc : Int32} {qbw : Int32} {fab : Int64} {fbe : Int64} {xbc_z : Int32} {xnc_z : Int32} {xfc_z : Int32} {blo_z : Int32} {bwh_z : Int32} {bow_z : Int32} {bom_z : Int32} {fab_z : Int64} {fbe_z : Int64} {r0 : Int32} {x1 : Int32} (X : Cx Γ p s m args meth c RX11 cX11_net 2 (some .int) w0) (hf : X_net x1 xbc xnc xfc csw csi cab cfa blo bwh bow bom fab fbe = some (r0, xbc_z, xnc_z, xfc_z, blo_z, bwh_z, bow_z, bom_z, fab_z, fbe_z)) (Y : Wd Γ w0 s ((WX Γ Ax Ac Ad Ai Aj At Ab Aq Af xik xns xng xnn xbc xnc xfc) ++ ((WC Γ Ac csw cca csi cab cun csg cfa che cst) ++ ((WC Γ Ad dsw dca dsi dab dun dsg dfa dhe dst) ++ ((WC Γ Ai isw ica isi iab iun isg ifa ihe ist) ++ ((WC Γ Aj jsw jca jsi jab jun jsg jfa jhe jst) ++ ((WT Γ At tby tnu tln tat tsr ttk tnm tit tft) ++ ((WB Γ Ab blo bwh bow bom) ++ ((WQ Γ Aq qhe qbi qhv qwo qts qbb qbc qbw) ++ (WF Γ Af fab fbe))))))))) H locs) (hl : lv_has ls 2 [(0, .ref (Ax 0)), (1, .int x1)]) : W p l e rmX_net s m args below meth c H locs 0 0 (EI Γ below args s w0 ((WX Γ Ax Ac Ad Ai Aj At Ab Aq Af xik xns xng xnn xbc_z xnc_z xfc_z) ++ ((WC Γ Ac csw cca csi cab cun csg cfa che cst) ++ ((WC Γ Ad dsw dca dsi dab dun dsg dfa dhe dst) ++ ((WC Γ Ai isw ica isi iab iun isg ifa ihe ist) ++ ((WC Γ Aj jsw jca jsi jab jun jsg jfa jhe jst) ++ ((WT Γ At tby tnu tln tat tsr ttk tnm tit tft) ++ ((WB Γ Ab blo_z bwh_z bow_z bom_z) ++ ((WQ Γ Aq qhe qbi qhv qwo qts qbb qbc qbw) ++ (WF Γ Af fab_z fbe_z))))))))) r0) (F0 m 0 ls []) := by
  have hx := X.1
  have hb := X.2.1
  refine lv_iload_n hx hb dX11_net_0 rfl (lv_at hl 1 rfl) ?_
  refine lv_iconst (v := (0 : Int32)) hx hb dX11_net_1 (by decide) ?_
  refine lv_iconst (v := (3 : Int32)) hx hb dX11_net_2 (by decide) ?_
  obtain ⟨r_1, ho_20, hf⟩ := bd1_some hf
  refine t_i Y (bk0 Y) (r_S (As := [.int x1, .int (0 : Int32), .int (3 : Int32)]) (rest := []) X (c_pre0 X Y) (cX_within ho_20) (cwX11_97 X (by decide)) rfl hl.1 (Nat.le_of_ble_eq_true rfl) rfl dX11_net_3 ⟨Nat.zero_le _, Nat.zero_le _⟩) (fun H locs Y => ?_)
  refine lv_if_ne (tgt := 16) hx hb dX11_net_6 (by decide) (fun c_2 => ?_) (fun c_2 => ?_)
  · have hf := ite_f hf c_2
    refine lv_aload_n hx hb dX11_net_16 rfl (lv_at hl 0 rfl) ?_
    refine gfX11_33 X Y (v := .ref (Ab 0)) 0 rfl rfl dX11_net_17 ?_
    refine lv_aload_n hx hb dX11_net_20 rfl (lv_at hl 0 rfl) ?_
    refine gfX11_10 X Y (v := .ref (Ac 0)) 0 rfl rfl dX11_net_21 ?_
    refine lv_iload_n hx hb dX11_net_24 rfl (lv_at hl 1 rfl) ?_
    obtain ⟨blo_3, bwh_4, bow_5, bom_6, ho_14, hf⟩ := bd4_some hf
    refine t_v Y (bk Y [24, 25, 26, 27, 28, 29, 30, 31, 5, 6, 7, 8] [0, 1, 2, 3, 4, 9, 10, 11, 12, 13, 14, 15, 16, 17, 18, 19, 20, 21, 22, 23, 32, 33, 34, 35, 36, 37] [0, 1, 2, 3, 4, 34, 35, 36, 37, 5, 6, 7, 8, 9, 10, 11, 12, 13, 14, 15, 16, 17, 18, 19, 26, 27, 28, 29, 30, 31, 32, 33, 20, 21, 22, 23, 24, 25] (wr := [(Ax 0, .inr (11, [.ref (Ac 0), .ref (Ad 0), .ref (Ax 1), .int xik, .ref (At 0), .ref (Ab 0), .ref (Aq 0), .ref (Af 0), .ref (Ax 2), .ref (Ax 3), .ref (Ax 4), .int xbc, .int xnc, .int xfc])), (Ax 1, .inl (Γ.2.1 4, 2, .inr (.inr (.inr (.inr (fun j => some (if j = 0 then Ai 0 else Aj 0))))))), (Ax 2, .inl (Γ.2.1 0, 2, .inl xns)), (Ax 3, .inl (Γ.2.1 0, 6, .inl xng)), (Ax 4, .inl (Γ.2.1 0, 3, .inl xnn)), (Ad 0, .inr (1, [.int dsw, .int dca, .int dsi, .int dab, .int dun, .int dsg, .ref (Ad 1), .ref (Ad 2), .ref (Ad 3)])), (Ad 1, .inl (Γ.2.1 0, 48, .inl dfa)), (Ad 2, .inl (Γ.2.1 0, 8, .inl dhe)), (Ad 3, .inl (Γ.2.1 0, 18, .inl dst)), (Ai 0, .inr (1, [.int isw, .int ica, .int isi, .int iab, .int iun, .int isg, .ref (Ai 1), .ref (Ai 2), .ref (Ai 3)])), (Ai 1, .inl (Γ.2.1 0, 48, .inl ifa)), (Ai 2, .inl (Γ.2.1 0, 8, .inl ihe)), (Ai 3, .inl (Γ.2.1 0, 18, .inl ist)), (Aj 0, .inr (1, [.int jsw, .int jca, .int jsi, .int jab, .int jun, .int jsg, .ref (Aj 1), .ref (Aj 2), .ref (Aj 3)])), (Aj 1, .inl (Γ.2.1 0, 48, .inl jfa)), (Aj 2, .inl (Γ.2.1 0, 8, .inl jhe)), (Aj 3, .inl (Γ.2.1 0, 18, .inl jst)), (At 0, .inr (10, [.ref (At 1), .ref (At 2), .int tln, .int tat, .int tsr, .int ttk, .int tnm, .int tit, .int tft])), (At 1, .inl (Γ.2.1 1, 150, .inl tby)), (At 2, .inl (Γ.2.1 0, 6, .inl tnu)), (Aq 0, .inr (6, [.ref (Aq 1), .ref (Aq 2), .ref (Aq 3), .ref (Aq 4), .int qts, .int qbb, .int qbc, .int qbw])), (Aq 1, .inl (Γ.2.1 0, 3, .inl qhe)), (Aq 2, .inl (Γ.2.1 0, 27, .inl qbi)), (Aq 3, .inl (Γ.2.1 0, 27, .inl qhv)), (Aq 4, .inl (Γ.2.1 0, 27, .inl qwo)), (Af 0, .inr (3, [.long fab, .long fbe]))]) (ws' := ((WX Γ Ax Ac Ad Ai Aj At Ab Aq Af xik xns xng xnn xbc xnc xfc) ++ ((WC Γ Ac csw cca csi cab cun csg cfa che cst) ++ ((WC Γ Ad dsw dca dsi dab dun dsg dfa dhe dst) ++ ((WC Γ Ai isw ica isi iab iun isg ifa ihe ist) ++ ((WC Γ Aj jsw jca jsi jab jun jsg jfa jhe jst) ++ ((WT Γ At tby tnu tln tat tsr ttk tnm tit tft) ++ ((WB Γ Ab blo_3 bwh_4 bow_5 bom_6) ++ ((WQ Γ Aq qhe qbi qhv qwo qts qbb qbc qbw) ++ (WF Γ Af fab fbe)))))))))) rfl rfl rfl (by decide) rfl rfl) (r_V (As := [.ref (Ac 0), .int x1]) (rest := []) X (c_pre X Y [24, 25, 26, 27, 28, 29, 30, 31, 5, 6, 7, 8] rfl rfl) (cB_reckon ho_14) (cwX11_161 X (by decide)) (va_recv X.K Y.1 (q := (RX0, TX0, 5)) (q0 := 24) (ci := 0) rfl rfl) rfl hl.1 (Nat.le_of_ble_eq_true rfl) rfl dX11_net_25 ⟨Nat.zero_le _, Nat.zero_le _⟩) (fun H locs Y => ?_)
    refine lv_aload_n hx hb dX11_net_28 rfl (lv_at hl 0 rfl) ?_
    refine gfX11_47 X Y (v := .ref (Af 0)) 0 rfl rfl dX11_net_29 ?_
    refine lv_aload_n hx hb dX11_net_32 rfl (lv_at hl 0 rfl) ?_
    refine gfX11_33 X Y (v := .ref (Ab 0)) 0 rfl rfl dX11_net_33 ?_
    obtain ⟨r_7, ho_13, hf⟩ := bd1_some hf
    refine t_l Y (bkE Y [24, 25, 26, 27, 28, 29, 30, 31] rfl) (r_V (As := []) (rest := [.ref (Af 0)]) X (c_pre X Y [24, 25, 26, 27, 28, 29, 30, 31] rfl rfl) (cB_netAbove ho_13) (cwX11_181 X (by decide)) (va_recv X.K Y.1 (q := (RX0, TX0, 5)) (q0 := 24) (ci := 0) rfl rfl) rfl hl.1 (Nat.le_of_ble_eq_true rfl) rfl dX11_net_36 ⟨Nat.zero_le _, Nat.zero_le _⟩) (fun H locs Y => ?_)
    refine lv_aload_n hx hb dX11_net_39 rfl (lv_at hl 0 rfl) ?_
    refine gfX11_33 X Y (v := .ref (Ab 0)) 0 rfl rfl dX11_net_40 ?_
    obtain ⟨r_8, ho_12, hf⟩ := bd1_some hf
    refine t_l Y (bkE Y [24, 25, 26, 27, 28, 29, 30, 31] rfl) (r_V (As := []) (rest := [.long r_7, .ref (Af 0)]) X (c_pre X Y [24, 25, 26, 27, 28, 29, 30, 31] rfl rfl) (cB_below ho_12) (cwX11_175 X (by decide)) (va_recv X.K Y.1 (q := (RX0, TX0, 5)) (q0 := 24) (ci := 0) rfl rfl) rfl hl.1 (Nat.le_of_ble_eq_true rfl) rfl dX11_net_43 ⟨Nat.zero_le _, Nat.zero_le _⟩) (fun H locs Y => ?_)
    obtain ⟨fab_9, fbe_10, ho_11, hf⟩ := bd2_some hf
    refine t_v Y (bk Y [37] [0, 1, 2, 3, 4, 5, 6, 7, 8, 9, 10, 11, 12, 13, 14, 15, 16, 17, 18, 19, 20, 21, 22, 23, 24, 25, 26, 27, 28, 29, 30, 31, 32, 33, 34, 35, 36] [0, 1, 2, 3, 4, 5, 6, 7, 8, 9, 10, 11, 12, 13, 14, 15, 16, 17, 18, 19, 20, 21, 22, 23, 24, 25, 26, 27, 28, 29, 30, 31, 32, 33, 34, 35, 36, 37] (wr := [(Ax 0, .inr (11, [.ref (Ac 0), .ref (Ad 0), .ref (Ax 1), .int xik, .ref (At 0), .ref (Ab 0), .ref (Aq 0), .ref (Af 0), .ref (Ax 2), .ref (Ax 3), .ref (Ax 4), .int xbc, .int xnc, .int xfc])), (Ax 1, .inl (Γ.2.1 4, 2, .inr (.inr (.inr (.inr (fun j => some (if j = 0 then Ai 0 else Aj 0))))))), (Ax 2, .inl (Γ.2.1 0, 2, .inl xns)), (Ax 3, .inl (Γ.2.1 0, 6, .inl xng)), (Ax 4, .inl (Γ.2.1 0, 3, .inl xnn)), (Ac 0, .inr (1, [.int csw, .int cca, .int csi, .int cab, .int cun, .int csg, .ref (Ac 1), .ref (Ac 2), .ref (Ac 3)])), (Ac 1, .inl (Γ.2.1 0, 48, .inl cfa)), (Ac 2, .inl (Γ.2.1 0, 8, .inl che)), (Ac 3, .inl (Γ.2.1 0, 18, .inl cst)), (Ad 0, .inr (1, [.int dsw, .int dca, .int dsi, .int dab, .int dun, .int dsg, .ref (Ad 1), .ref (Ad 2), .ref (Ad 3)])), (Ad 1, .inl (Γ.2.1 0, 48, .inl dfa)), (Ad 2, .inl (Γ.2.1 0, 8, .inl dhe)), (Ad 3, .inl (Γ.2.1 0, 18, .inl dst)), (Ai 0, .inr (1, [.int isw, .int ica, .int isi, .int iab, .int iun, .int isg, .ref (Ai 1), .ref (Ai 2), .ref (Ai 3)])), (Ai 1, .inl (Γ.2.1 0, 48, .inl ifa)), (Ai 2, .inl (Γ.2.1 0, 8, .inl ihe)), (Ai 3, .inl (Γ.2.1 0, 18, .inl ist)), (Aj 0, .inr (1, [.int jsw, .int jca, .int jsi, .int jab, .int jun, .int jsg, .ref (Aj 1), .ref (Aj 2), .ref (Aj 3)])), (Aj 1, .inl (Γ.2.1 0, 48, .inl jfa)), (Aj 2, .inl (Γ.2.1 0, 8, .inl jhe)), (Aj 3, .inl (Γ.2.1 0, 18, .inl jst)), (At 0, .inr (10, [.ref (At 1), .ref (At 2), .int tln, .int tat, .int tsr, .int ttk, .int tnm, .int tit, .int tft])), (At 1, .inl (Γ.2.1 1, 150, .inl tby)), (At 2, .inl (Γ.2.1 0, 6, .inl tnu)), (Ab 0, .inr (0, [.ref (Ab 1), .int blo_3, .int bwh_4, .int bow_5, .int bom_6])), (Ab 1, .inl (Γ.2.1 3, 6, .inr (.inr (.inr (.inr (fun j => some (Ab (2 + j)))))))), (Ab 2, .inr (8, [])), (Ab 3, .inr (2, [])), (Ab 4, .inr (5, [])), (Ab 5, .inr (9, [])), (Ab 6, .inr (7, [])), (Ab 7, .inr (4, [])), (Aq 0, .inr (6, [.ref (Aq 1), .ref (Aq 2), .ref (Aq 3), .ref (Aq 4), .int qts, .int qbb, .int qbc, .int qbw])), (Aq 1, .inl (Γ.2.1 0, 3, .inl qhe)), (Aq 2, .inl (Γ.2.1 0, 27, .inl qbi)), (Aq 3, .inl (Γ.2.1 0, 27, .inl qhv)), (Aq 4, .inl (Γ.2.1 0, 27, .inl qwo))]) (ws' := ((WX Γ Ax Ac Ad Ai Aj At Ab Aq Af xik xns xng xnn xbc xnc xfc) ++ ((WC Γ Ac csw cca csi cab cun csg cfa che cst) ++ ((WC Γ Ad dsw dca dsi dab dun dsg dfa dhe dst) ++ ((WC Γ Ai isw ica isi iab iun isg ifa ihe ist) ++ ((WC Γ Aj jsw jca jsi jab jun jsg jfa jhe jst) ++ ((WT Γ At tby tnu tln tat tsr ttk tnm tit tft) ++ ((WB Γ Ab blo_3 bwh_4 bow_5 bom_6) ++ ((WQ Γ Aq qhe qbi qhv qwo qts qbb qbc qbw) ++ (WF Γ Af fab_9 fbe_10)))))))))) rfl rfl rfl (by decide) rfl rfl) (r_V (As := [.long r_7, .long r_8]) (rest := []) X (c_pre X Y [37] rfl rfl) (cF_become ho_11) (cwX11_178 X (by decide)) (va_recv X.K Y.1 (q := (RX3, TX3, 2)) (q0 := 37) (ci := 3) rfl rfl) rfl hl.1 (Nat.le_of_ble_eq_true rfl) rfl dX11_net_46 ⟨Nat.zero_le _, Nat.zero_le _⟩) (fun H locs Y => ?_)
    refine lv_iconst (v := (1 : Int32)) hx hb dX11_net_49 (by decide) ?_
    obtain ⟨e90, e91, e92, e93, e94, e95, e96, e97, e98, e99⟩ := sj10 hf
    subst e90
    subst e91
    subst e92
    subst e93
    subst e94
    subst e95
    subst e96
    subst e97
    subst e98
    subst e99
    exact x_iret X Y dX11_net_50
  · have hf := ite_t hf c_2
    refine lv_aload_n hx hb dX11_net_9 rfl (lv_at hl 0 rfl) ?_
    refine lv_bipush (v := (-2 : Int32)) hx hb dX11_net_10 (by decide) ?_
    obtain ⟨r_15, xbc_16, xnc_17, xfc_18, ho_19, hf⟩ := bd4_some hf
    refine t_i Y (bkS Y) (r_V (As := [.int (-2 : Int32)]) (rest := []) X (c_preS X Y) (cX_refuse ho_19) (cwX11_71 X (by decide)) (va_recv X.K Y.1 (q := (RX11, TX11, 14)) (q0 := 0) (ci := 11) rfl rfl) rfl hl.1 (Nat.le_of_ble_eq_true rfl) rfl dX11_net_12 ⟨Nat.zero_le _, Nat.zero_le _⟩) (fun H locs Y => ?_)
    obtain ⟨e90, e91, e92, e93, e94, e95, e96, e97, e98, e99⟩ := sj10 hf
    subst e90
    subst e91
    subst e92
    subst e93
    subst e94
    subst e95
    subst e96
    subst e97
    subst e98
    subst e99
    exact x_iret X Y dX11_net_15
theorem cX_net {l : Launch} {Γ : Gm} {Ax : Nat → Nat} {Ac : Nat → Nat} {Ad : Nat → Nat} {Ai : Nat → Nat} {Aj : Nat → Nat} {At : Nat → Nat} {Ab : Nat → Nat} {Aq : Nat → Nat} {Af : Nat → Nat} {xik : Int32} {xns : Nat → Int32} {xng : Nat → Int32} {xnn : Nat → Int32} {xbc : Int32} {xnc : Int32} {xfc : Int32} {csw : Int32} {cca : Int32} {csi : Int32} {cab : Int32} {cun : Int32} {csg : Int32} {cfa : Nat → Int32} {che : Nat → Int32} {cst : Nat → Int32} {dsw : Int32} {dca : Int32} {dsi : Int32} {dab : Int32} {dun : Int32} {dsg : Int32} {dfa : Nat → Int32} {dhe : Nat → Int32} {dst : Nat → Int32} {isw : Int32} {ica : Int32} {isi : Int32} {iab : Int32} {iun : Int32} {isg : Int32} {ifa : Nat → Int32} {ihe : Nat → Int32} {ist : Nat → Int32} {jsw : Int32} {jca : Int32} {jsi : Int32} {jab : Int32} {jun : Int32} {jsg : Int32} {jfa : Nat → Int32} {jhe : Nat → Int32} {jst : Nat → Int32} {tby : Nat → Int32} {tnu : Nat → Int32} {tln : Int32} {tat : Int32} {tsr : Int32} {ttk : Int32} {tnm : Int32} {tit : Int32} {tft : Int32} {blo : Int32} {bwh : Int32} {bow : Int32} {bom : Int32} {qhe : Nat → Int32} {qbi : Nat → Int32} {qhv : Nat → Int32} {qwo : Nat → Int32} {qts : Int32} {qbb : Int32} {qbc : Int32} {qbw : Int32} {fab : Int64} {fbe : Int64} {xbc_z : Int32} {xnc_z : Int32} {xfc_z : Int32} {blo_z : Int32} {bwh_z : Int32} {bow_z : Int32} {bom_z : Int32} {fab_z : Int64} {fbe_z : Int64} {r0 : Int32} {x1 : Int32} (h : X_net x1 xbc xnc xfc csw csi cab cfa blo bwh bow bom fab fbe = some (r0, xbc_z, xnc_z, xfc_z, blo_z, bwh_z, bow_z, bom_z, fab_z, fbe_z)) : CI l Γ yX11_net (Cond.code yX11_net cX11_net 2 (some .int) :: GW) rmX_net [.ref (Ax 0), .int x1] ((WX Γ Ax Ac Ad Ai Aj At Ab Aq Af xik xns xng xnn xbc xnc xfc) ++ ((WC Γ Ac csw cca csi cab cun csg cfa che cst) ++ ((WC Γ Ad dsw dca dsi dab dun dsg dfa dhe dst) ++ ((WC Γ Ai isw ica isi iab iun isg ifa ihe ist) ++ ((WC Γ Aj jsw jca jsi jab jun jsg jfa jhe jst) ++ ((WT Γ At tby tnu tln tat tsr ttk tnm tit tft) ++ ((WB Γ Ab blo bwh bow bom) ++ ((WQ Γ Aq qhe qbi qhv qwo qts qbb qbc qbw) ++ (WF Γ Af fab fbe))))))))) ((WX Γ Ax Ac Ad Ai Aj At Ab Aq Af xik xns xng xnn xbc_z xnc_z xfc_z) ++ ((WC Γ Ac csw cca csi cab cun csg cfa che cst) ++ ((WC Γ Ad dsw dca dsi dab dun dsg dfa dhe dst) ++ ((WC Γ Ai isw ica isi iab iun isg ifa ihe ist) ++ ((WC Γ Aj jsw jca jsi jab jun jsg jfa jhe jst) ++ ((WT Γ At tby tnu tln tat tsr ttk tnm tit tft) ++ ((WB Γ Ab blo_z bwh_z bow_z bom_z) ++ ((WQ Γ Aq qhe qbi qhv qwo qts qbb qbc qbw) ++ (WF Γ Af fab_z fbe_z))))))))) r0 := ofBody (Qc := QcI Γ _ _ r0) (by decide) (Nat.le_of_ble_eq_true rfl) (fun p e s m below meth c ls _ X Y hl => bX_net_e X h Y hl)
theorem gfX11_40 (X : Cx Γ p s m args meth c RX11 cc nL ret w0) (Y : Wd Γ w0 s ws H locs) {v : Value} (q0 : Nat) {fs : List Value} (he : ws[q0]? = some (a, .inr (11, fs))) (hv : fs[6]? = some v) (hdg : decode cc pc = .ok (.getfield 40, 3)) (kk : W p l e R s m args below meth c H locs cells slots Q (F0 m (pc + 3) ls (v :: rest))) : W p l e R s m args below meth c H locs cells slots Q (F0 m pc ls (.ref a :: rest)) := x_get X Y iX11 rfl 6 (by decide) rfl kw574 q0 he hv hdg kk
theorem dmX11_inOrderV : yX11_inOrder.cls = RX11 ∧ yX11_inOrder.cls ≠ "java/lang/invoke/MethodHandle" ∧ yX11_inOrder.cls ≠ "java/lang/invoke/VarHandle" ∧ (parseMethodDescriptor yX11_inOrder.desc).map (fun d => d.parameters.length) = some 2 := by decide +kernel
theorem cwX11_188 (X : Cx Γ p s m args meth c RX11 cc nL ret w0) (hR : rmX_inOrder.frames + 1 ≤ R.frames ∧ 8 + (6 + 11) + rmX_inOrder.locals ≤ R.locals) : CallW R s args RX11 RX11 188 yX11_inOrder cX11_inOrder 6 (some .int) (Cond.code yX11_inOrder cX11_inOrder 6 (some .int) :: GW) rmX_inOrder 0 0 2 := cw_V X kw575 kw576 kw577 kw220 kw578 dmX11_inOrderV rfl rfl hR
theorem dmX6_findV : yX6_find.cls = RX6 ∧ yX6_find.cls ≠ "java/lang/invoke/MethodHandle" ∧ yX6_find.cls ≠ "java/lang/invoke/VarHandle" ∧ (parseMethodDescriptor yX6_find.desc).map (fun d => d.parameters.length) = some 3 := by decide +kernel
theorem cwX11_184 (X : Cx Γ p s m args meth c RX11 cc nL ret w0) (hR : rmQ_find.frames + 1 ≤ R.frames ∧ 8 + (4 + 11) + rmQ_find.locals ≤ R.locals) : CallW R s args RX11 RX6 184 yX6_find cX6_find 4 (some .int) (Cond.code yX6_find cX6_find 4 (some .int) :: GW) rmQ_find 0 0 3 := cw_V X kw579 kw580 kw581 kw368 kw582 dmX6_findV rfl rfl hR
def rmX_least : Room := { frames := 5, cells := 0, slots := 0, locals := 121 }
def X_least_13 (xbc : Int32) (xnc : Int32) (xfc : Int32) (cca : Int32) (csi : Int32) (cab : Int32) (cfa : Nat → Int32) (qhe : Nat → Int32) (qbi : Nat → Int32) (qhv : Nat → Int32) (qwo : Nat → Int32) (qts : Int32) (qbb : Int32) (qbc : Int32) (qbw : Int32) : Option (Int32 × Int32 × Int32 × Int32 × (Nat → Int32) × (Nat → Int32) × (Nat → Int32) × (Nat → Int32) × Int32 × Int32 × Int32 × Int32) := bd4 (X_refuse (-2 : Int32) xbc xnc xfc) (fun (r_1 : Int32) (xbc_2 : Int32) (xnc_3 : Int32) (xfc_4 : Int32) => some ((-10 : Int32), xbc_2, xnc_3, xfc_4, qhe, qbi, qhv, qwo, qts, qbb, qbc, qbw))
set_option maxHeartbeats 4000000 in
set_option maxRecDepth 100000 in
theorem bX_least_13 {Ax : Nat → Nat} {Ac : Nat → Nat} {Ad : Nat → Nat} {Ai : Nat → Nat} {Aj : Nat → Nat} {At : Nat → Nat} {Ab : Nat → Nat} {Aq : Nat → Nat} {Af : Nat → Nat} {xik : Int32} {xns : Nat → Int32} {xng : Nat → Int32} {xnn : Nat → Int32} {xbc : Int32} {xnc : Int32} {xfc : Int32} {csw : Int32} {cca : Int32} {csi : Int32} {cab : Int32} {cun : Int32} {csg : Int32} {cfa : Nat → Int32} {che : Nat → Int32} {cst : Nat → Int32} {dsw : Int32} {dca : Int32} {dsi : Int32} {dab : Int32} {dun : Int32} {dsg : Int32} {dfa : Nat → Int32} {dhe : Nat → Int32} {dst : Nat → Int32} {isw : Int32} {ica : Int32} {isi : Int32} {iab : Int32} {iun : Int32} {isg : Int32} {ifa : Nat → Int32} {ihe : Nat → Int32} {ist : Nat → Int32} {jsw : Int32} {jca : Int32} {jsi : Int32} {jab : Int32} {jun : Int32} {jsg : Int32} {jfa : Nat → Int32} {jhe : Nat → Int32} {jst : Nat → Int32} {tby : Nat → Int32} {tnu : Nat → Int32} {tln : Int32} {tat : Int32} {tsr : Int32} {ttk : Int32} {tnm : Int32} {tit : Int32} {tft : Int32} {blo : Int32} {bwh : Int32} {bow : Int32} {bom : Int32} {qhe : Nat → Int32} {qbi : Nat → Int32} {qhv : Nat → Int32} {qwo : Nat → Int32} {qts : Int32} {qbb : Int32} {qbc : Int32} {qbw : Int32} {fab : Int64} {fbe : Int64} {xbc_z : Int32} {xnc_z : Int32} {xfc_z : Int32} {qhe_z : Nat → Int32} {qbi_z : Nat → Int32} {qhv_z : Nat → Int32} {qwo_z : Nat → Int32} {qts_z : Int32} {qbb_z : Int32} {qbc_z : Int32} {qbw_z : Int32} {r0 : Int32} (X : Cx Γ p s m args meth c RX11 cX11_least 4 (some .int) w0) (hf : X_least_13 xbc xnc xfc cca csi cab cfa qhe qbi qhv qwo qts qbb qbc qbw = some (r0, xbc_z, xnc_z, xfc_z, qhe_z, qbi_z, qhv_z, qwo_z, qts_z, qbb_z, qbc_z, qbw_z)) (Y : Wd Γ w0 s ((WX Γ Ax Ac Ad Ai Aj At Ab Aq Af xik xns xng xnn xbc xnc xfc) ++ ((WC Γ Ac csw cca csi cab cun csg cfa che cst) ++ ((WC Γ Ad dsw dca dsi dab dun dsg dfa dhe dst) ++ ((WC Γ Ai isw ica isi iab iun isg ifa ihe ist) ++ ((WC Γ Aj jsw jca jsi jab jun jsg jfa jhe jst) ++ ((WT Γ At tby tnu tln tat tsr ttk tnm tit tft) ++ ((WB Γ Ab blo bwh bow bom) ++ ((WQ Γ Aq qhe qbi qhv qwo qts qbb qbc qbw) ++ (WF Γ Af fab fbe))))))))) H locs) (hl : lv_has ls 4 [(0, .ref (Ax 0))]) : W p l e rmX_least s m args below meth c H locs 0 0 (EI Γ below args s w0 ((WX Γ Ax Ac Ad Ai Aj At Ab Aq Af xik xns xng xnn xbc_z xnc_z xfc_z) ++ ((WC Γ Ac csw cca csi cab cun csg cfa che cst) ++ ((WC Γ Ad dsw dca dsi dab dun dsg dfa dhe dst) ++ ((WC Γ Ai isw ica isi iab iun isg ifa ihe ist) ++ ((WC Γ Aj jsw jca jsi jab jun jsg jfa jhe jst) ++ ((WT Γ At tby tnu tln tat tsr ttk tnm tit tft) ++ ((WB Γ Ab blo bwh bow bom) ++ ((WQ Γ Aq qhe_z qbi_z qhv_z qwo_z qts_z qbb_z qbc_z qbw_z) ++ (WF Γ Af fab fbe))))))))) r0) (F0 m 13 ls []) := by
  have hx := X.1
  have hb := X.2.1
  refine lv_aload_n hx hb dX11_least_13 rfl (lv_at hl 0 rfl) ?_
  refine lv_bipush (v := (-2 : Int32)) hx hb dX11_least_14 (by decide) ?_
  obtain ⟨r_1, xbc_2, xnc_3, xfc_4, ho_5, hf⟩ := bd4_some hf
  refine t_i Y (bkS Y) (r_V (As := [.int (-2 : Int32)]) (rest := []) X (c_preS X Y) (cX_refuse ho_5) (cwX11_71 X (by decide)) (va_recv X.K Y.1 (q := (RX11, TX11, 14)) (q0 := 0) (ci := 11) rfl rfl) rfl hl.1 (Nat.le_of_ble_eq_true rfl) rfl dX11_least_16 ⟨Nat.zero_le _, Nat.zero_le _⟩) (fun H locs Y => ?_)
  refine lv_pop hx hb dX11_least_19 rfl ?_
  refine lv_bipush (v := (-10 : Int32)) hx hb dX11_least_20 (by decide) ?_
  obtain ⟨e90, e91, e92, e93, e94, e95, e96, e97, e98, e99, e910, e911⟩ := sj12 hf
  subst e90
  subst e91
  subst e92
  subst e93
  subst e94
  subst e95
  subst e96
  subst e97
  subst e98
  subst e99
  subst e910
  subst e911
  exact x_iret X Y dX11_least_22
def X_least (x1 : Int32) (x2 : Int32) (xbc : Int32) (xnc : Int32) (xfc : Int32) (cca : Int32) (csi : Int32) (cab : Int32) (cfa : Nat → Int32) (qhe : Nat → Int32) (qbi : Nat → Int32) (qhv : Nat → Int32) (qwo : Nat → Int32) (qts : Int32) (qbb : Int32) (qbc : Int32) (qbw : Int32) : Option (Int32 × Int32 × Int32 × Int32 × (Nat → Int32) × (Nat → Int32) × (Nat → Int32) × (Nat → Int32) × Int32 × Int32 × Int32 × Int32) := bd1 (X_isStorm x1) (fun (r_1 : Int32) => if r_1 = 0 then (X_least_13 xbc xnc xfc cca csi cab cfa qhe qbi qhv qwo qts qbb qbc qbw) else (if (-2 : Int32) ≤ x2 then (bd9 (Q_find cab x1 qhe qbi qhv qwo qts qbb qbc qbw cca csi cfa) (fun (r_4 : Int32) (qhe_5 : Nat → Int32) (qbi_6 : Nat → Int32) (qhv_7 : Nat → Int32) (qwo_8 : Nat → Int32) (qts_9 : Int32) (qbb_10 : Int32) (qbc_11 : Int32) (qbw_12 : Int32) => if r_4 = (-1 : Int32) then (some (r_4, xbc, xnc, xfc, qhe_5, qbi_6, qhv_7, qwo_8, qts_9, qbb_10, qbc_11, qbw_12)) else (if x2 = (-2 : Int32) then (some (r_4, xbc, xnc, xfc, qhe_5, qbi_6, qhv_7, qwo_8, qts_9, qbb_10, qbc_11, qbw_12)) else (if x2 = (-1 : Int32) then (bd1 (C_total r_4 (4 : Int32) csi cfa) (fun (r_18 : Int32) => some (r_18, xbc, xnc, xfc, qhe_5, qbi_6, qhv_7, qwo_8, qts_9, qbb_10, qbc_11, qbw_12))) else (bd1 (X_inOrder r_4 x2 csi cab cfa) (fun (r_16 : Int32) => some (r_16, xbc, xnc, xfc, qhe_5, qbi_6, qhv_7, qwo_8, qts_9, qbb_10, qbc_11, qbw_12))))))) else (X_least_13 xbc xnc xfc cca csi cab cfa qhe qbi qhv qwo qts qbb qbc qbw)))
set_option maxHeartbeats 4000000 in
set_option maxRecDepth 100000 in
theorem bX_least_e {Ax : Nat → Nat} {Ac : Nat → Nat} {Ad : Nat → Nat} {Ai : Nat → Nat} {Aj : Nat → Nat} {At : Nat → Nat} {Ab : Nat → Nat} {Aq : Nat → Nat} {Af : Nat → Nat} {xik : Int32} {xns : Nat → Int32} {xng : Nat → Int32} {xnn : Nat → Int32} {xbc : Int32} {xnc : Int32} {xfc : Int32} {csw : Int32} {cca : Int32} {csi : Int32} {cab : Int32} {cun : Int32} {csg : Int32} {cfa : Nat → Int32} {che : Nat → Int32} {cst : Nat → Int32} {dsw : Int32} {dca : Int32} {dsi : Int32} {dab : Int32} {dun : Int32} {dsg : Int32} {dfa : Nat → Int32} {dhe : Nat → Int32} {dst : Nat → Int32} {isw : Int32} {ica : Int32} {isi : Int32} {iab : Int32} {iun : Int32} {isg : Int32} {ifa : Nat → Int32} {ihe : Nat → Int32} {ist : Nat → Int32} {jsw : Int32} {jca : Int32} {jsi : Int32} {jab : Int32} {jun : Int32} {jsg : Int32} {jfa : Nat → Int32} {jhe : Nat → Int32} {jst : Nat → Int32} {tby : Nat → Int32} {tnu : Nat → Int32} {tln : Int32} {tat : Int32} {tsr : Int32} {ttk : Int32} {tnm : Int32} {tit : Int32} {tft : Int32} {blo : Int32} {bwh : Int32} {bow : Int32} {bom : Int32} {qhe : Nat → Int32} {qbi : Nat → Int32} {qhv : Nat → Int32} {qwo : Nat → Int32} {qts : Int32} {qbb : Int32} {qbc : Int32} {qbw : Int32} {fab : Int64} {fbe : Int64} {xbc_z : Int32} {xnc_z : Int32} {xfc_z : Int32} {qhe_z : Nat → Int32} {qbi_z : Nat → Int32} {qhv_z : Nat → Int32} {qwo_z : Nat → Int32} {qts_z : Int32} {qbb_z : Int32} {qbc_z : Int32} {qbw_z : Int32} {r0 : Int32} {x1 : Int32} {x2 : Int32} (X : Cx Γ p s m args meth c RX11 cX11_least 4 (some .int) w0) (hf : X_least x1 x2 xbc xnc xfc cca csi cab cfa qhe qbi qhv qwo qts qbb qbc qbw = some (r0, xbc_z, xnc_z, xfc_z, qhe_z, qbi_z, qhv_z, qwo_z, qts_z, qbb_z, qbc_z, qbw_z)) (Y : Wd Γ w0 s ((WX Γ Ax Ac Ad Ai Aj At Ab Aq Af xik xns xng xnn xbc xnc xfc) ++ ((WC Γ Ac csw cca csi cab cun csg cfa che cst) ++ ((WC Γ Ad dsw dca dsi dab dun dsg dfa dhe dst) ++ ((WC Γ Ai isw ica isi iab iun isg ifa ihe ist) ++ ((WC Γ Aj jsw jca jsi jab jun jsg jfa jhe jst) ++ ((WT Γ At tby tnu tln tat tsr ttk tnm tit tft) ++ ((WB Γ Ab blo bwh bow bom) ++ ((WQ Γ Aq qhe qbi qhv qwo qts qbb qbc qbw) ++ (WF Γ Af fab fbe))))))))) H locs) (hl : lv_has ls 4 [(0, .ref (Ax 0)), (1, .int x1), (2, .int x2)]) : W p l e rmX_least s m args below meth c H locs 0 0 (EI Γ below args s w0 ((WX Γ Ax Ac Ad Ai Aj At Ab Aq Af xik xns xng xnn xbc_z xnc_z xfc_z) ++ ((WC Γ Ac csw cca csi cab cun csg cfa che cst) ++ ((WC Γ Ad dsw dca dsi dab dun dsg dfa dhe dst) ++ ((WC Γ Ai isw ica isi iab iun isg ifa ihe ist) ++ ((WC Γ Aj jsw jca jsi jab jun jsg jfa jhe jst) ++ ((WT Γ At tby tnu tln tat tsr ttk tnm tit tft) ++ ((WB Γ Ab blo bwh bow bom) ++ ((WQ Γ Aq qhe_z qbi_z qhv_z qwo_z qts_z qbb_z qbc_z qbw_z) ++ (WF Γ Af fab fbe))))))))) r0) (F0 m 0 ls []) := by
  have hx := X.1
  have hb := X.2.1
  refine lv_iload_n hx hb dX11_least_0 rfl (lv_at hl 1 rfl) ?_
  obtain ⟨r_1, ho_21, hf⟩ := bd1_some hf
  refine t_i Y (bk0 Y) (r_S (As := [.int x1]) (rest := []) X (c_pre0 X Y) (cX_isStorm ho_21) (cwX11_152 X (by decide)) rfl hl.1 (Nat.le_of_ble_eq_true rfl) rfl dX11_least_1 ⟨Nat.zero_le _, Nat.zero_le _⟩) (fun H locs Y => ?_)
  refine lv_if_eq (tgt := 13) hx hb dX11_least_4 (by decide) (fun c_2 => ?_) (fun c_2 => ?_)
  · have hf := ite_t hf c_2
    exact bX_least_13 X hf Y (lv_sub hl [0] rfl)
  · have hf := ite_f hf c_2
    refine lv_iload_n hx hb dX11_least_7 rfl (lv_at hl 2 rfl) ?_
    refine lv_bipush (v := (-2 : Int32)) hx hb dX11_least_8 (by decide) ?_
    refine lv_icmp_ge (tgt := 23) hx hb dX11_least_10 (by decide) (fun c_3 => ?_) (fun c_3 => ?_)
    · have hf := ite_t hf c_3
      refine lv_aload_n hx hb dX11_least_23 rfl (lv_at hl 0 rfl) ?_
      refine gfX11_40 X Y (v := .ref (Aq 0)) 0 rfl rfl dX11_least_24 ?_
      refine lv_aload_n hx hb dX11_least_27 rfl (lv_at hl 0 rfl) ?_
      refine gfX11_10 X Y (v := .ref (Ac 0)) 0 rfl rfl dX11_least_28 ?_
      refine lv_aload_n hx hb dX11_least_31 rfl (lv_at hl 0 rfl) ?_
      refine gfX11_10 X Y (v := .ref (Ac 0)) 0 rfl rfl dX11_least_32 ?_
      refine gfX11_125 X Y (v := .int cab) 5 rfl rfl dX11_least_35 ?_
      refine lv_iload_n hx hb dX11_least_38 rfl (lv_at hl 1 rfl) ?_
      obtain ⟨r_4, qhe_5, qbi_6, qhv_7, qwo_8, qts_9, qbb_10, qbc_11, qbw_12, ho_20, hf⟩ := bd9_some hf
      refine t_i Y (bk Y [32, 33, 34, 35, 36, 5, 6, 7, 8] [0, 1, 2, 3, 4, 9, 10, 11, 12, 13, 14, 15, 16, 17, 18, 19, 20, 21, 22, 23, 24, 25, 26, 27, 28, 29, 30, 31, 37] [0, 1, 2, 3, 4, 34, 35, 36, 37, 5, 6, 7, 8, 9, 10, 11, 12, 13, 14, 15, 16, 17, 18, 19, 20, 21, 22, 23, 24, 25, 26, 27, 29, 30, 31, 32, 33, 28] (wr := [(Ax 0, .inr (11, [.ref (Ac 0), .ref (Ad 0), .ref (Ax 1), .int xik, .ref (At 0), .ref (Ab 0), .ref (Aq 0), .ref (Af 0), .ref (Ax 2), .ref (Ax 3), .ref (Ax 4), .int xbc, .int xnc, .int xfc])), (Ax 1, .inl (Γ.2.1 4, 2, .inr (.inr (.inr (.inr (fun j => some (if j = 0 then Ai 0 else Aj 0))))))), (Ax 2, .inl (Γ.2.1 0, 2, .inl xns)), (Ax 3, .inl (Γ.2.1 0, 6, .inl xng)), (Ax 4, .inl (Γ.2.1 0, 3, .inl xnn)), (Ad 0, .inr (1, [.int dsw, .int dca, .int dsi, .int dab, .int dun, .int dsg, .ref (Ad 1), .ref (Ad 2), .ref (Ad 3)])), (Ad 1, .inl (Γ.2.1 0, 48, .inl dfa)), (Ad 2, .inl (Γ.2.1 0, 8, .inl dhe)), (Ad 3, .inl (Γ.2.1 0, 18, .inl dst)), (Ai 0, .inr (1, [.int isw, .int ica, .int isi, .int iab, .int iun, .int isg, .ref (Ai 1), .ref (Ai 2), .ref (Ai 3)])), (Ai 1, .inl (Γ.2.1 0, 48, .inl ifa)), (Ai 2, .inl (Γ.2.1 0, 8, .inl ihe)), (Ai 3, .inl (Γ.2.1 0, 18, .inl ist)), (Aj 0, .inr (1, [.int jsw, .int jca, .int jsi, .int jab, .int jun, .int jsg, .ref (Aj 1), .ref (Aj 2), .ref (Aj 3)])), (Aj 1, .inl (Γ.2.1 0, 48, .inl jfa)), (Aj 2, .inl (Γ.2.1 0, 8, .inl jhe)), (Aj 3, .inl (Γ.2.1 0, 18, .inl jst)), (At 0, .inr (10, [.ref (At 1), .ref (At 2), .int tln, .int tat, .int tsr, .int ttk, .int tnm, .int tit, .int tft])), (At 1, .inl (Γ.2.1 1, 150, .inl tby)), (At 2, .inl (Γ.2.1 0, 6, .inl tnu)), (Ab 0, .inr (0, [.ref (Ab 1), .int blo, .int bwh, .int bow, .int bom])), (Ab 1, .inl (Γ.2.1 3, 6, .inr (.inr (.inr (.inr (fun j => some (Ab (2 + j)))))))), (Ab 2, .inr (8, [])), (Ab 3, .inr (2, [])), (Ab 4, .inr (5, [])), (Ab 5, .inr (9, [])), (Ab 6, .inr (7, [])), (Ab 7, .inr (4, [])), (Af 0, .inr (3, [.long fab, .long fbe]))]) (ws' := ((WX Γ Ax Ac Ad Ai Aj At Ab Aq Af xik xns xng xnn xbc xnc xfc) ++ ((WC Γ Ac csw cca csi cab cun csg cfa che cst) ++ ((WC Γ Ad dsw dca dsi dab dun dsg dfa dhe dst) ++ ((WC Γ Ai isw ica isi iab iun isg ifa ihe ist) ++ ((WC Γ Aj jsw jca jsi jab jun jsg jfa jhe jst) ++ ((WT Γ At tby tnu tln tat tsr ttk tnm tit tft) ++ ((WB Γ Ab blo bwh bow bom) ++ ((WQ Γ Aq qhe_5 qbi_6 qhv_7 qwo_8 qts_9 qbb_10 qbc_11 qbw_12) ++ (WF Γ Af fab fbe)))))))))) rfl rfl rfl (by decide) rfl rfl) (r_V (As := [.ref (Ac 0), .int cab, .int x1]) (rest := []) X (c_pre X Y [32, 33, 34, 35, 36, 5, 6, 7, 8] rfl rfl) (cQ_find ho_20) (cwX11_184 X (by decide)) (va_recv X.K Y.1 (q := (RX6, TX6, 8)) (q0 := 32) (ci := 6) rfl rfl) rfl hl.1 (Nat.le_of_ble_eq_true rfl) rfl dX11_least_39 ⟨Nat.zero_le _, Nat.zero_le _⟩) (fun H locs Y => ?_)
      refine lv_istore_n (lv' := [(3, .int r_4), (0, .ref (Ax 0)), (1, .int x1), (2, .int x2)]) hx hb dX11_least_42 rfl hl (by decide) rfl (fun ls hl => ?_)
      refine lv_iload_n hx hb dX11_least_43 rfl (lv_at hl 0 rfl) ?_
      refine lv_iconst (v := (-1 : Int32)) hx hb dX11_least_44 (by decide) ?_
      refine lv_icmp_eq (tgt := 54) hx hb dX11_least_45 (by decide) (fun c_13 => ?_) (fun c_13 => ?_)
      · have hf := ite_t hf c_13
        refine lv_iload_n hx hb dX11_least_54 rfl (lv_at hl 0 rfl) ?_
        obtain ⟨e90, e91, e92, e93, e94, e95, e96, e97, e98, e99, e910, e911⟩ := sj12 hf
        subst e90
        subst e91
        subst e92
        subst e93
        subst e94
        subst e95
        subst e96
        subst e97
        subst e98
        subst e99
        subst e910
        subst e911
        exact x_iret X Y dX11_least_55
      · have hf := ite_f hf c_13
        refine lv_iload_n hx hb dX11_least_48 rfl (lv_at hl 3 rfl) ?_
        refine lv_bipush (v := (-2 : Int32)) hx hb dX11_least_49 (by decide) ?_
        refine lv_icmp_ne (tgt := 56) hx hb dX11_least_51 (by decide) (fun c_14 => ?_) (fun c_14 => ?_)
        · have hf := ite_f hf c_14
          refine lv_iload_n hx hb dX11_least_56 rfl (lv_at hl 3 rfl) ?_
          refine lv_iconst (v := (-1 : Int32)) hx hb dX11_least_57 (by decide) ?_
          refine lv_icmp_ne (tgt := 73) hx hb dX11_least_58 (by decide) (fun c_15 => ?_) (fun c_15 => ?_)
          · have hf := ite_f hf c_15
            refine lv_aload_n hx hb dX11_least_73 rfl (lv_at hl 1 rfl) ?_
            refine lv_iload_n hx hb dX11_least_74 rfl (lv_at hl 0 rfl) ?_
            refine lv_iload_n hx hb dX11_least_75 rfl (lv_at hl 3 rfl) ?_
            obtain ⟨r_16, ho_17, hf⟩ := bd1_some hf
            refine t_i Y (bkS Y) (r_V (As := [.int r_4, .int x2]) (rest := []) X (c_preS X Y) (cX_inOrder ho_17) (cwX11_188 X (by decide)) (va_recv X.K Y.1 (q := (RX11, TX11, 14)) (q0 := 0) (ci := 11) rfl rfl) rfl hl.1 (Nat.le_of_ble_eq_true rfl) rfl dX11_least_76 ⟨Nat.zero_le _, Nat.zero_le _⟩) (fun H locs Y => ?_)
            obtain ⟨e90, e91, e92, e93, e94, e95, e96, e97, e98, e99, e910, e911⟩ := sj12 hf
            subst e90
            subst e91
            subst e92
            subst e93
            subst e94
            subst e95
            subst e96
            subst e97
            subst e98
            subst e99
            subst e910
            subst e911
            exact x_iret X Y dX11_least_79
          · have hf := ite_t hf c_15
            refine lv_aload_n hx hb dX11_least_61 rfl (lv_at hl 1 rfl) ?_
            refine gfX11_10 X Y (v := .ref (Ac 0)) 0 rfl rfl dX11_least_62 ?_
            refine lv_iload_n hx hb dX11_least_65 rfl (lv_at hl 0 rfl) ?_
            refine lv_iconst (v := (4 : Int32)) hx hb dX11_least_66 (by decide) ?_
            obtain ⟨r_18, ho_19, hf⟩ := bd1_some hf
            refine t_i Y (bkE Y [5, 6, 7, 8] rfl) (r_V (As := [.int r_4, .int (4 : Int32)]) (rest := []) X (c_pre X Y [5, 6, 7, 8] rfl rfl) (cC_total ho_19) (cwX11_158 X (by decide)) (va_recv X.K Y.1 (q := (RX1, TX1, 9)) (q0 := 5) (ci := 1) rfl rfl) rfl hl.1 (Nat.le_of_ble_eq_true rfl) rfl dX11_least_67 ⟨Nat.zero_le _, Nat.zero_le _⟩) (fun H locs Y => ?_)
            refine lv_goto (tgt := 79) hx hb dX11_least_70 (by decide) ?_
            obtain ⟨e90, e91, e92, e93, e94, e95, e96, e97, e98, e99, e910, e911⟩ := sj12 hf
            subst e90
            subst e91
            subst e92
            subst e93
            subst e94
            subst e95
            subst e96
            subst e97
            subst e98
            subst e99
            subst e910
            subst e911
            exact x_iret X Y dX11_least_79
        · have hf := ite_t hf c_14
          refine lv_iload_n hx hb dX11_least_54 rfl (lv_at hl 0 rfl) ?_
          obtain ⟨e90, e91, e92, e93, e94, e95, e96, e97, e98, e99, e910, e911⟩ := sj12 hf
          subst e90
          subst e91
          subst e92
          subst e93
          subst e94
          subst e95
          subst e96
          subst e97
          subst e98
          subst e99
          subst e910
          subst e911
          exact x_iret X Y dX11_least_55
    · have hf := ite_f hf c_3
      exact bX_least_13 X hf Y (lv_sub hl [0] rfl)
theorem cX_least {l : Launch} {Γ : Gm} {Ax : Nat → Nat} {Ac : Nat → Nat} {Ad : Nat → Nat} {Ai : Nat → Nat} {Aj : Nat → Nat} {At : Nat → Nat} {Ab : Nat → Nat} {Aq : Nat → Nat} {Af : Nat → Nat} {xik : Int32} {xns : Nat → Int32} {xng : Nat → Int32} {xnn : Nat → Int32} {xbc : Int32} {xnc : Int32} {xfc : Int32} {csw : Int32} {cca : Int32} {csi : Int32} {cab : Int32} {cun : Int32} {csg : Int32} {cfa : Nat → Int32} {che : Nat → Int32} {cst : Nat → Int32} {dsw : Int32} {dca : Int32} {dsi : Int32} {dab : Int32} {dun : Int32} {dsg : Int32} {dfa : Nat → Int32} {dhe : Nat → Int32} {dst : Nat → Int32} {isw : Int32} {ica : Int32} {isi : Int32} {iab : Int32} {iun : Int32} {isg : Int32} {ifa : Nat → Int32} {ihe : Nat → Int32} {ist : Nat → Int32} {jsw : Int32} {jca : Int32} {jsi : Int32} {jab : Int32} {jun : Int32} {jsg : Int32} {jfa : Nat → Int32} {jhe : Nat → Int32} {jst : Nat → Int32} {tby : Nat → Int32} {tnu : Nat → Int32} {tln : Int32} {tat : Int32} {tsr : Int32} {ttk : Int32} {tnm : Int32} {tit : Int32} {tft : Int32} {blo : Int32} {bwh : Int32} {bow : Int32} {bom : Int32} {qhe : Nat → Int32} {qbi : Nat → Int32} {qhv : Nat → Int32} {qwo : Nat → Int32} {qts : Int32} {qbb : Int32} {qbc : Int32} {qbw : Int32} {fab : Int64} {fbe : Int64} {xbc_z : Int32} {xnc_z : Int32} {xfc_z : Int32} {qhe_z : Nat → Int32} {qbi_z : Nat → Int32} {qhv_z : Nat → Int32} {qwo_z : Nat → Int32} {qts_z : Int32} {qbb_z : Int32} {qbc_z : Int32} {qbw_z : Int32} {r0 : Int32} {x1 : Int32} {x2 : Int32} (h : X_least x1 x2 xbc xnc xfc cca csi cab cfa qhe qbi qhv qwo qts qbb qbc qbw = some (r0, xbc_z, xnc_z, xfc_z, qhe_z, qbi_z, qhv_z, qwo_z, qts_z, qbb_z, qbc_z, qbw_z)) : CI l Γ yX11_least (Cond.code yX11_least cX11_least 4 (some .int) :: GW) rmX_least [.ref (Ax 0), .int x1, .int x2] ((WX Γ Ax Ac Ad Ai Aj At Ab Aq Af xik xns xng xnn xbc xnc xfc) ++ ((WC Γ Ac csw cca csi cab cun csg cfa che cst) ++ ((WC Γ Ad dsw dca dsi dab dun dsg dfa dhe dst) ++ ((WC Γ Ai isw ica isi iab iun isg ifa ihe ist) ++ ((WC Γ Aj jsw jca jsi jab jun jsg jfa jhe jst) ++ ((WT Γ At tby tnu tln tat tsr ttk tnm tit tft) ++ ((WB Γ Ab blo bwh bow bom) ++ ((WQ Γ Aq qhe qbi qhv qwo qts qbb qbc qbw) ++ (WF Γ Af fab fbe))))))))) ((WX Γ Ax Ac Ad Ai Aj At Ab Aq Af xik xns xng xnn xbc_z xnc_z xfc_z) ++ ((WC Γ Ac csw cca csi cab cun csg cfa che cst) ++ ((WC Γ Ad dsw dca dsi dab dun dsg dfa dhe dst) ++ ((WC Γ Ai isw ica isi iab iun isg ifa ihe ist) ++ ((WC Γ Aj jsw jca jsi jab jun jsg jfa jhe jst) ++ ((WT Γ At tby tnu tln tat tsr ttk tnm tit tft) ++ ((WB Γ Ab blo bwh bow bom) ++ ((WQ Γ Aq qhe_z qbi_z qhv_z qwo_z qts_z qbb_z qbc_z qbw_z) ++ (WF Γ Af fab fbe))))))))) r0 := ofBody (Qc := QcI Γ _ _ r0) (by decide) (Nat.le_of_ble_eq_true rfl) (fun p e s m below meth c ls _ X Y hl => bX_least_e X h Y hl)
end
