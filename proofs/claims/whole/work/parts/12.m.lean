section
variable {p : Program} {l : Launch} {e : Env} {R : Room} {s : State} {m : MethodId} {args : Array Value} {below : List Frame} {meth : Method} {c : Code} {H : Heap} {locs : List Loc} {Q : State → Prop} {cells slots : Nat}
variable {Γ : Gm} {own : String} {cc : ByteArray} {nL : Nat} {ret : Option FieldType} {w0 ws ws' : va_W} {pc : Nat} {ls : Array Slot} {rest : List Value} {a : Nat}
def rmM_takesOver : Room := { frames := 3, cells := 0, slots := 0, locals := 70 }
def M_takesOver (w : Nat → Int32) (tx : Nat → Int32) (td : Int32) (ap : Int32) (sp : Int32) (iw : Int32) (ig : Int32) (nu : Nat → Int32) : Option (Int32 × (Nat → Int32) × Int32 × Int32 × Int32 × Int32 × (Nat → Int32)) := bd6 (M_takes (0 : Int32) (0 : Int32) ((w 240) - (1 : Int32)) tx td ap sp iw ig nu) (fun (r_1 : Int32) (ap_2 : Int32) (sp_3 : Int32) (iw_4 : Int32) (ig_5 : Int32) (nu_6 : Nat → Int32) => if r_1 = 0 then (some ((0 : Int32), w, ap_2, sp_3, iw_4, ig_5, nu_6)) else (bd1 (M_isTop (240 : Int32) (w 245) (nu_6 0) (-1 : Int32) (0 : Int32) w) (fun (r_8 : Int32) => if r_8 = 0 then (some ((0 : Int32), w, ap_2, sp_3, iw_4, ig_5, nu_6)) else (bnd ((w 245) &&& (((1 : Int32) <<< ((nu_6 0) &&& 31)) ^^^ (-1 : Int32))) (fun (v_10 : Int32) => bnd (upd w 245 v_10) (fun (w_11 : Nat → Int32) => some ((1 : Int32), w_11, ap_2, sp_3, iw_4, ig_5, nu_6)))))))
set_option maxHeartbeats 4000000 in
set_option maxRecDepth 100000 in
theorem bM_takesOver_e {Am : Nat → Nat} {w : Nat → Int32} {kp : Nat → Int32} {tx : Nat → Int32} {td : Int32} {rf : Nat → Int32} {fa : Int64} {fb : Int64} {ap : Int32} {sp : Int32} {iw : Int32} {ig : Int32} {nu : Nat → Int32} {lst : Int32} {lwo : Int32} {hh : Int64} {w_z : Nat → Int32} {ap_z : Int32} {sp_z : Int32} {iw_z : Int32} {ig_z : Int32} {nu_z : Nat → Int32} {r0 : Int32} (X : Cx Γ p s m args meth c RX12 cX12_takesOver 1 (some .boolean) w0) (hf : M_takesOver w tx td ap sp iw ig nu = some (r0, w_z, ap_z, sp_z, iw_z, ig_z, nu_z)) (Y : Wd Γ w0 s (WM Γ Am w kp tx td rf fa fb ap sp iw ig nu lst lwo hh) H locs) (hl : lv_has ls 1 [(0, .ref (Am 0))]) : W p l e rmM_takesOver s m args below meth c H locs 0 0 (EI Γ below args s w0 (WM Γ Am w_z kp tx td rf fa fb ap_z sp_z iw_z ig_z nu_z lst lwo hh) r0) (F0 m 0 ls []) := by
  have hx := X.1
  have hb := X.2.1
  refine lv_aload_n hx hb dX12_takesOver_0 rfl (lv_at hl 0 rfl) ?_
  refine lv_iconst (v := (0 : Int32)) hx hb dX12_takesOver_1 (by decide) ?_
  refine lv_iconst (v := (0 : Int32)) hx hb dX12_takesOver_2 (by decide) ?_
  refine lv_aload_n hx hb dX12_takesOver_3 rfl (lv_at hl 0 rfl) ?_
  refine gfX12_7 X Y (v := .ref (Am 1)) 0 rfl rfl dX12_takesOver_4 ?_
  refine lv_sipush (v := (240 : Int32)) hx hb dX12_takesOver_7 (by decide) ?_
  refine x_iald X Y 1 rfl (j := 240) rfl rfl dX12_takesOver_10 ?_
  refine lv_iconst (v := (1 : Int32)) hx hb dX12_takesOver_11 (by decide) ?_
  refine lv_isub hx hb dX12_takesOver_12 ?_
  obtain ⟨r_1, ap_2, sp_3, iw_4, ig_5, nu_6, ho_13, hf⟩ := bd6_some hf
  refine t_i Y (bkS Y) (r_V (As := [.int (0 : Int32), .int (0 : Int32), .int ((w 240) - (1 : Int32))]) (rest := []) X (c_preS X Y) (cM_takes ho_13) (cwX12_115 X (by decide)) (va_recv X.K Y.1 (q := (RX12, TX12, 15)) (q0 := 0) (ci := 12) rfl rfl) rfl hl.1 (Nat.le_of_ble_eq_true rfl) rfl dX12_takesOver_13 ⟨Nat.zero_le _, Nat.zero_le _⟩) (fun H locs Y => ?_)
  refine lv_if_eq (tgt := 45) hx hb dX12_takesOver_16 (by decide) (fun c_7 => ?_) (fun c_7 => ?_)
  · have hf := ite_t hf c_7
    refine lv_iconst (v := (0 : Int32)) hx hb dX12_takesOver_45 (by decide) ?_
    obtain ⟨e90, e91, e92, e93, e94, e95, e96⟩ := sj7 hf
    subst e90
    subst e91
    subst e92
    subst e93
    subst e94
    subst e95
    subst e96
    exact x_zret X Y rfl dX12_takesOver_46
  · have hf := ite_f hf c_7
    refine lv_aload_n hx hb dX12_takesOver_19 rfl (lv_at hl 0 rfl) ?_
    refine lv_sipush (v := (240 : Int32)) hx hb dX12_takesOver_20 (by decide) ?_
    refine lv_aload_n hx hb dX12_takesOver_23 rfl (lv_at hl 0 rfl) ?_
    refine gfX12_7 X Y (v := .ref (Am 1)) 0 rfl rfl dX12_takesOver_24 ?_
    refine lv_sipush (v := (245 : Int32)) hx hb dX12_takesOver_27 (by decide) ?_
    refine x_iald X Y 1 rfl (j := 245) rfl rfl dX12_takesOver_30 ?_
    refine lv_aload_n hx hb dX12_takesOver_31 rfl (lv_at hl 0 rfl) ?_
    refine gfX12_27 X Y (v := .ref (Am 5)) 0 rfl rfl dX12_takesOver_32 ?_
    refine lv_iconst (v := (0 : Int32)) hx hb dX12_takesOver_35 (by decide) ?_
    refine x_iald X Y 5 rfl (j := 0) rfl rfl dX12_takesOver_36 ?_
    refine lv_iconst (v := (-1 : Int32)) hx hb dX12_takesOver_37 (by decide) ?_
    refine lv_iconst (v := (0 : Int32)) hx hb dX12_takesOver_38 (by decide) ?_
    obtain ⟨r_8, ho_12, hf⟩ := bd1_some hf
    refine t_i Y (bkS Y) (r_V (As := [.int (240 : Int32), .int (w 245), .int (nu_6 0), .int (-1 : Int32), .int (0 : Int32)]) (rest := []) X (c_preS X Y) (cM_isTop ho_12) (cwX12_74 X (by decide)) (va_recv X.K Y.1 (q := (RX12, TX12, 15)) (q0 := 0) (ci := 12) rfl rfl) rfl hl.1 (Nat.le_of_ble_eq_true rfl) rfl dX12_takesOver_39 ⟨Nat.zero_le _, Nat.zero_le _⟩) (fun H locs Y => ?_)
    refine lv_if_ne (tgt := 47) hx hb dX12_takesOver_42 (by decide) (fun c_9 => ?_) (fun c_9 => ?_)
    · have hf := ite_f hf c_9
      refine lv_aload_n hx hb dX12_takesOver_47 rfl (lv_at hl 0 rfl) ?_
      refine gfX12_7 X Y (v := .ref (Am 1)) 0 rfl rfl dX12_takesOver_48 ?_
      refine lv_sipush (v := (245 : Int32)) hx hb dX12_takesOver_51 (by decide) ?_
      refine lv_dup2_11 hx hb dX12_takesOver_54 rfl rfl ?_
      refine x_iald X Y 1 rfl (j := 245) rfl rfl dX12_takesOver_55 ?_
      refine lv_iconst (v := (1 : Int32)) hx hb dX12_takesOver_56 (by decide) ?_
      refine lv_aload_n hx hb dX12_takesOver_57 rfl (lv_at hl 0 rfl) ?_
      refine gfX12_27 X Y (v := .ref (Am 5)) 0 rfl rfl dX12_takesOver_58 ?_
      refine lv_iconst (v := (0 : Int32)) hx hb dX12_takesOver_61 (by decide) ?_
      refine x_iald X Y 5 rfl (j := 0) rfl rfl dX12_takesOver_62 ?_
      refine lv_ishl hx hb dX12_takesOver_63 ?_
      refine lv_iconst (v := (-1 : Int32)) hx hb dX12_takesOver_64 (by decide) ?_
      refine lv_ixor hx hb dX12_takesOver_65 ?_
      refine lv_iand hx hb dX12_takesOver_66 ?_
      refine lv_topi (fun v_10 e_v_10 => ?_)
      have hf := bnd_eq hf e_v_10
      obtain ⟨w_11, e_w_11⟩ : ∃ z : Nat → Int32, z = (upd w 245 v_10) := ⟨_, rfl⟩
      have hf := bnd_eq hf e_w_11
      refine x_iast X Y 1 rfl (j := 245) rfl rfl (ws' := (WM Γ Am w_11 kp tx td rf fa fb ap_2 sp_3 iw_4 ig_5 nu_6 lst lwo hh)) (by subst e_w_11; rfl) dX12_takesOver_67 (fun H locs Y => ?_)
      refine lv_iconst (v := (1 : Int32)) hx hb dX12_takesOver_68 (by decide) ?_
      obtain ⟨e90, e91, e92, e93, e94, e95, e96⟩ := sj7 hf
      subst e90
      subst e91
      subst e92
      subst e93
      subst e94
      subst e95
      subst e96
      exact x_zret X Y rfl dX12_takesOver_69
    · have hf := ite_t hf c_9
      refine lv_iconst (v := (0 : Int32)) hx hb dX12_takesOver_45 (by decide) ?_
      obtain ⟨e90, e91, e92, e93, e94, e95, e96⟩ := sj7 hf
      subst e90
      subst e91
      subst e92
      subst e93
      subst e94
      subst e95
      subst e96
      exact x_zret X Y rfl dX12_takesOver_46
theorem cM_takesOver {l : Launch} {Γ : Gm} {Am : Nat → Nat} {w : Nat → Int32} {kp : Nat → Int32} {tx : Nat → Int32} {td : Int32} {rf : Nat → Int32} {fa : Int64} {fb : Int64} {ap : Int32} {sp : Int32} {iw : Int32} {ig : Int32} {nu : Nat → Int32} {lst : Int32} {lwo : Int32} {hh : Int64} {w_z : Nat → Int32} {ap_z : Int32} {sp_z : Int32} {iw_z : Int32} {ig_z : Int32} {nu_z : Nat → Int32} {r0 : Int32} (h : M_takesOver w tx td ap sp iw ig nu = some (r0, w_z, ap_z, sp_z, iw_z, ig_z, nu_z)) : CI l Γ yX12_takesOver (Cond.code yX12_takesOver cX12_takesOver 1 (some .boolean) :: GW) rmM_takesOver [.ref (Am 0)] (WM Γ Am w kp tx td rf fa fb ap sp iw ig nu lst lwo hh) (WM Γ Am w_z kp tx td rf fa fb ap_z sp_z iw_z ig_z nu_z lst lwo hh) r0 := ofBody (Qc := QcI Γ _ _ r0) (by decide) (Nat.le_of_ble_eq_true rfl) (fun p e s m below meth c ls _ X Y hl => bM_takesOver_e X h Y hl)
theorem dmX12_wordNowV : yX12_wordNow.cls = RX12 ∧ yX12_wordNow.cls ≠ "java/lang/invoke/MethodHandle" ∧ yX12_wordNow.cls ≠ "java/lang/invoke/VarHandle" ∧ (parseMethodDescriptor yX12_wordNow.desc).map (fun d => d.parameters.length) = some 0 := by decide +kernel
theorem cwX12_119 (X : Cx Γ p s m args meth c RX12 cc nL ret w0) (hR : rmM_wordNow.frames + 1 ≤ R.frames ∧ 8 + (1 + 11) + rmM_wordNow.locals ≤ R.locals) : CallW R s args RX12 RX12 119 yX12_wordNow cX12_wordNow 1 (some .int) (Cond.code yX12_wordNow cX12_wordNow 1 (some .int) :: GW) rmM_wordNow 0 0 0 := cw_V X kw71 kw72 kw73 kw4 kw74 dmX12_wordNowV rfl rfl hR
theorem dmX12_takesOverV : yX12_takesOver.cls = RX12 ∧ yX12_takesOver.cls ≠ "java/lang/invoke/MethodHandle" ∧ yX12_takesOver.cls ≠ "java/lang/invoke/VarHandle" ∧ (parseMethodDescriptor yX12_takesOver.desc).map (fun d => d.parameters.length) = some 0 := by decide +kernel
theorem cwX12_129 (X : Cx Γ p s m args meth c RX12 cc nL ret w0) (hR : rmM_takesOver.frames + 1 ≤ R.frames ∧ 8 + (1 + 11) + rmM_takesOver.locals ≤ R.locals) : CallW R s args RX12 RX12 129 yX12_takesOver cX12_takesOver 1 (some .boolean) (Cond.code yX12_takesOver cX12_takesOver 1 (some .boolean) :: GW) rmM_takesOver 0 0 0 := cw_V X kw75 kw76 kw77 kw4 kw78 dmX12_takesOverV rfl rfl hR
theorem dmX12_takesGoodsV : yX12_takesGoods.cls = RX12 ∧ yX12_takesGoods.cls ≠ "java/lang/invoke/MethodHandle" ∧ yX12_takesGoods.cls ≠ "java/lang/invoke/VarHandle" ∧ (parseMethodDescriptor yX12_takesGoods.desc).map (fun d => d.parameters.length) = some 0 := by decide +kernel
theorem cwX12_126 (X : Cx Γ p s m args meth c RX12 cc nL ret w0) (hR : rmM_takesGoods.frames + 1 ≤ R.frames ∧ 8 + (1 + 11) + rmM_takesGoods.locals ≤ R.locals) : CallW R s args RX12 RX12 126 yX12_takesGoods cX12_takesGoods 1 (some .boolean) (Cond.code yX12_takesGoods cX12_takesGoods 1 (some .boolean) :: GW) rmM_takesGoods 0 0 0 := cw_V X kw79 kw80 kw81 kw4 kw82 dmX12_takesGoodsV rfl rfl hR
theorem dmX12_takesShipV : yX12_takesShip.cls = RX12 ∧ yX12_takesShip.cls ≠ "java/lang/invoke/MethodHandle" ∧ yX12_takesShip.cls ≠ "java/lang/invoke/VarHandle" ∧ (parseMethodDescriptor yX12_takesShip.desc).map (fun d => d.parameters.length) = some 0 := by decide +kernel
theorem cwX12_122 (X : Cx Γ p s m args meth c RX12 cc nL ret w0) (hR : rmM_takesShip.frames + 1 ≤ R.frames ∧ 8 + (1 + 11) + rmM_takesShip.locals ≤ R.locals) : CallW R s args RX12 RX12 122 yX12_takesShip cX12_takesShip 1 (some .boolean) (Cond.code yX12_takesShip cX12_takesShip 1 (some .boolean) :: GW) rmM_takesShip 0 0 0 := cw_V X kw83 kw84 kw85 kw4 kw86 dmX12_takesShipV rfl rfl hR
def rmM_takesItem : Room := { frames := 4, cells := 0, slots := 0, locals := 90 }
def M_takesItem_60 (y0 : Int32) (w : Nat → Int32) (tx : Nat → Int32) (td : Int32) (ap : Int32) (sp : Int32) (iw : Int32) (ig : Int32) (nu : Nat → Int32) : Option (Int32 × (Nat → Int32) × Int32 × Int32 × Int32 × Int32 × (Nat → Int32)) := if y0 = 0 then (some ((0 : Int32), w, ap, sp, iw, ig, nu)) else (bd4 (M_token tx td ap sp iw ig) (fun (ap_2 : Int32) (sp_3 : Int32) (iw_4 : Int32) (ig_5 : Int32) => bd1 (M_byteAt sp_3 tx td) (fun (r_6 : Int32) => if r_6 = (59 : Int32) then (some ((1 : Int32), w, ap_2, sp_3, iw_4, ig_5, nu)) else (some ((0 : Int32), w, ap_2, sp_3, iw_4, ig_5, nu)))))
set_option maxHeartbeats 4000000 in
set_option maxRecDepth 100000 in
theorem bM_takesItem_60 {Am : Nat → Nat} {w : Nat → Int32} {kp : Nat → Int32} {tx : Nat → Int32} {td : Int32} {rf : Nat → Int32} {fa : Int64} {fb : Int64} {ap : Int32} {sp : Int32} {iw : Int32} {ig : Int32} {nu : Nat → Int32} {lst : Int32} {lwo : Int32} {hh : Int64} {w_z : Nat → Int32} {ap_z : Int32} {sp_z : Int32} {iw_z : Int32} {ig_z : Int32} {nu_z : Nat → Int32} {r0 : Int32} {y0 : Int32} (X : Cx Γ p s m args meth c RX12 cX12_takesItem 4 (some .boolean) w0) (hf : M_takesItem_60 y0 w tx td ap sp iw ig nu = some (r0, w_z, ap_z, sp_z, iw_z, ig_z, nu_z)) (Y : Wd Γ w0 s (WM Γ Am w kp tx td rf fa fb ap sp iw ig nu lst lwo hh) H locs) (hl : lv_has ls 4 [(0, .ref (Am 0))]) : W p l e rmM_takesItem s m args below meth c H locs 0 0 (EI Γ below args s w0 (WM Γ Am w_z kp tx td rf fa fb ap_z sp_z iw_z ig_z nu_z lst lwo hh) r0) (F0 m 60 ls [.int y0]) := by
  have hx := X.1
  have hb := X.2.1
  refine lv_istore_n (lv' := [(3, .int y0), (0, .ref (Am 0))]) hx hb dX12_takesItem_60 rfl hl (by decide) rfl (fun ls hl => ?_)
  refine lv_iload_n hx hb dX12_takesItem_61 rfl (lv_at hl 0 rfl) ?_
  refine lv_if_ne (tgt := 67) hx hb dX12_takesItem_62 (by decide) (fun c_1 => ?_) (fun c_1 => ?_)
  · have hf := ite_f hf c_1
    refine lv_aload_n hx hb dX12_takesItem_67 rfl (lv_at hl 1 rfl) ?_
    obtain ⟨ap_2, sp_3, iw_4, ig_5, ho_9, hf⟩ := bd4_some hf
    refine t_v Y (bkS Y) (r_V (As := []) (rest := []) X (c_preS X Y) (cM_token ho_9) (cwX12_112 X (by decide)) (va_recv X.K Y.1 (q := (RX12, TX12, 15)) (q0 := 0) (ci := 12) rfl rfl) rfl hl.1 (Nat.le_of_ble_eq_true rfl) rfl dX12_takesItem_68 ⟨Nat.zero_le _, Nat.zero_le _⟩) (fun H locs Y => ?_)
    refine lv_aload_n hx hb dX12_takesItem_71 rfl (lv_at hl 1 rfl) ?_
    refine lv_aload_n hx hb dX12_takesItem_72 rfl (lv_at hl 1 rfl) ?_
    refine gfX12_91 X Y (v := .int sp_3) 0 rfl rfl dX12_takesItem_73 ?_
    obtain ⟨r_6, ho_8, hf⟩ := bd1_some hf
    refine t_i Y (bkS Y) (r_V (As := [.int sp_3]) (rest := []) X (c_preS X Y) (cM_byteAt ho_8) (cwX12_87 X (by decide)) (va_recv X.K Y.1 (q := (RX12, TX12, 15)) (q0 := 0) (ci := 12) rfl rfl) rfl hl.1 (Nat.le_of_ble_eq_true rfl) rfl dX12_takesItem_76 ⟨Nat.zero_le _, Nat.zero_le _⟩) (fun H locs Y => ?_)
    refine lv_bipush (v := (59 : Int32)) hx hb dX12_takesItem_79 (by decide) ?_
    refine lv_icmp_ne (tgt := 88) hx hb dX12_takesItem_81 (by decide) (fun c_7 => ?_) (fun c_7 => ?_)
    · have hf := ite_f hf c_7
      refine lv_iconst (v := (0 : Int32)) hx hb dX12_takesItem_88 (by decide) ?_
      obtain ⟨e90, e91, e92, e93, e94, e95, e96⟩ := sj7 hf
      subst e90
      subst e91
      subst e92
      subst e93
      subst e94
      subst e95
      subst e96
      exact x_zret X Y rfl dX12_takesItem_89
    · have hf := ite_t hf c_7
      refine lv_iconst (v := (1 : Int32)) hx hb dX12_takesItem_84 (by decide) ?_
      refine lv_goto (tgt := 89) hx hb dX12_takesItem_85 (by decide) ?_
      obtain ⟨e90, e91, e92, e93, e94, e95, e96⟩ := sj7 hf
      subst e90
      subst e91
      subst e92
      subst e93
      subst e94
      subst e95
      subst e96
      exact x_zret X Y rfl dX12_takesItem_89
  · have hf := ite_t hf c_1
    refine lv_iconst (v := (0 : Int32)) hx hb dX12_takesItem_65 (by decide) ?_
    obtain ⟨e90, e91, e92, e93, e94, e95, e96⟩ := sj7 hf
    subst e90
    subst e91
    subst e92
    subst e93
    subst e94
    subst e95
    subst e96
    exact x_zret X Y rfl dX12_takesItem_66
def M_takesItem_28 (x2 : Int32) (y0 : Int32) (y1 : Int32) (w : Nat → Int32) (tx : Nat → Int32) (td : Int32) (ap : Int32) (sp : Int32) (iw : Int32) (ig : Int32) (nu : Nat → Int32) : Option (Int32 × (Nat → Int32) × Int32 × Int32 × Int32 × Int32 × (Nat → Int32)) := if y1 = y0 then (if x2 = 0 then (bd7 (M_takesShip w tx td ap sp iw ig nu) (fun (r_20 : Int32) (w_21 : Nat → Int32) (ap_22 : Int32) (sp_23 : Int32) (iw_24 : Int32) (ig_25 : Int32) (nu_26 : Nat → Int32) => M_takesItem_60 r_20 w_21 tx td ap_22 sp_23 iw_24 ig_25 nu_26)) else (if x2 = (1 : Int32) then (bd7 (M_takesGoods w tx td ap sp iw ig nu) (fun (r_12 : Int32) (w_13 : Nat → Int32) (ap_14 : Int32) (sp_15 : Int32) (iw_16 : Int32) (ig_17 : Int32) (nu_18 : Nat → Int32) => M_takesItem_60 r_12 w_13 tx td ap_14 sp_15 iw_16 ig_17 nu_18)) else (bd7 (M_takesOver w tx td ap sp iw ig nu) (fun (r_4 : Int32) (w_5 : Nat → Int32) (ap_6 : Int32) (sp_7 : Int32) (iw_8 : Int32) (ig_9 : Int32) (nu_10 : Nat → Int32) => M_takesItem_60 r_4 w_5 tx td ap_6 sp_7 iw_8 ig_9 nu_10)))) else (some ((0 : Int32), w, ap, sp, iw, ig, nu))
set_option maxHeartbeats 4000000 in
set_option maxRecDepth 100000 in
theorem bM_takesItem_28 {Am : Nat → Nat} {w : Nat → Int32} {kp : Nat → Int32} {tx : Nat → Int32} {td : Int32} {rf : Nat → Int32} {fa : Int64} {fb : Int64} {ap : Int32} {sp : Int32} {iw : Int32} {ig : Int32} {nu : Nat → Int32} {lst : Int32} {lwo : Int32} {hh : Int64} {w_z : Nat → Int32} {ap_z : Int32} {sp_z : Int32} {iw_z : Int32} {ig_z : Int32} {nu_z : Nat → Int32} {r0 : Int32} {x2 : Int32} {y0 : Int32} {y1 : Int32} (X : Cx Γ p s m args meth c RX12 cX12_takesItem 4 (some .boolean) w0) (hf : M_takesItem_28 x2 y0 y1 w tx td ap sp iw ig nu = some (r0, w_z, ap_z, sp_z, iw_z, ig_z, nu_z)) (Y : Wd Γ w0 s (WM Γ Am w kp tx td rf fa fb ap sp iw ig nu lst lwo hh) H locs) (hl : lv_has ls 4 [(0, .ref (Am 0)), (2, .int x2)]) : W p l e rmM_takesItem s m args below meth c H locs 0 0 (EI Γ below args s w0 (WM Γ Am w_z kp tx td rf fa fb ap_z sp_z iw_z ig_z nu_z lst lwo hh) r0) (F0 m 28 ls [.int y0, .int y1]) := by
  have hx := X.1
  have hb := X.2.1
  refine lv_icmp_eq (tgt := 33) hx hb dX12_takesItem_28 (by decide) (fun c_1 => ?_) (fun c_1 => ?_)
  · have hf := ite_t hf c_1
    refine lv_iload_n hx hb dX12_takesItem_33 rfl (lv_at hl 1 rfl) ?_
    refine lv_if_ne (tgt := 44) hx hb dX12_takesItem_34 (by decide) (fun c_2 => ?_) (fun c_2 => ?_)
    · have hf := ite_f hf c_2
      refine lv_iload_n hx hb dX12_takesItem_44 rfl (lv_at hl 1 rfl) ?_
      refine lv_iconst (v := (1 : Int32)) hx hb dX12_takesItem_45 (by decide) ?_
      refine lv_icmp_ne (tgt := 56) hx hb dX12_takesItem_46 (by decide) (fun c_3 => ?_) (fun c_3 => ?_)
      · have hf := ite_f hf c_3
        refine lv_aload_n hx hb dX12_takesItem_56 rfl (lv_at hl 0 rfl) ?_
        obtain ⟨r_4, w_5, ap_6, sp_7, iw_8, ig_9, nu_10, ho_11, hf⟩ := bd7_some hf
        refine t_i Y (bkS Y) (r_V (As := []) (rest := []) X (c_preS X Y) (cM_takesOver ho_11) (cwX12_129 X (by decide)) (va_recv X.K Y.1 (q := (RX12, TX12, 15)) (q0 := 0) (ci := 12) rfl rfl) rfl hl.1 (Nat.le_of_ble_eq_true rfl) rfl dX12_takesItem_57 ⟨Nat.zero_le _, Nat.zero_le _⟩) (fun H locs Y => ?_)
        exact bM_takesItem_60 X hf Y (lv_sub hl [0] rfl)
      · have hf := ite_t hf c_3
        refine lv_aload_n hx hb dX12_takesItem_49 rfl (lv_at hl 0 rfl) ?_
        obtain ⟨r_12, w_13, ap_14, sp_15, iw_16, ig_17, nu_18, ho_19, hf⟩ := bd7_some hf
        refine t_i Y (bkS Y) (r_V (As := []) (rest := []) X (c_preS X Y) (cM_takesGoods ho_19) (cwX12_126 X (by decide)) (va_recv X.K Y.1 (q := (RX12, TX12, 15)) (q0 := 0) (ci := 12) rfl rfl) rfl hl.1 (Nat.le_of_ble_eq_true rfl) rfl dX12_takesItem_50 ⟨Nat.zero_le _, Nat.zero_le _⟩) (fun H locs Y => ?_)
        refine lv_goto (tgt := 60) hx hb dX12_takesItem_53 (by decide) ?_
        exact bM_takesItem_60 X hf Y (lv_sub hl [0] rfl)
    · have hf := ite_t hf c_2
      refine lv_aload_n hx hb dX12_takesItem_37 rfl (lv_at hl 0 rfl) ?_
      obtain ⟨r_20, w_21, ap_22, sp_23, iw_24, ig_25, nu_26, ho_27, hf⟩ := bd7_some hf
      refine t_i Y (bkS Y) (r_V (As := []) (rest := []) X (c_preS X Y) (cM_takesShip ho_27) (cwX12_122 X (by decide)) (va_recv X.K Y.1 (q := (RX12, TX12, 15)) (q0 := 0) (ci := 12) rfl rfl) rfl hl.1 (Nat.le_of_ble_eq_true rfl) rfl dX12_takesItem_38 ⟨Nat.zero_le _, Nat.zero_le _⟩) (fun H locs Y => ?_)
      refine lv_goto (tgt := 60) hx hb dX12_takesItem_41 (by decide) ?_
      exact bM_takesItem_60 X hf Y (lv_sub hl [0] rfl)
  · have hf := ite_f hf c_1
    refine lv_iconst (v := (0 : Int32)) hx hb dX12_takesItem_31 (by decide) ?_
    obtain ⟨e90, e91, e92, e93, e94, e95, e96⟩ := sj7 hf
    subst e90
    subst e91
    subst e92
    subst e93
    subst e94
    subst e95
    subst e96
    exact x_zret X Y rfl dX12_takesItem_32
def M_takesItem_19 (x1 : Int32) (x2 : Int32) (y0 : Int32) (w : Nat → Int32) (tx : Nat → Int32) (td : Int32) (ap : Int32) (sp : Int32) (iw : Int32) (ig : Int32) (nu : Nat → Int32) : Option (Int32 × (Nat → Int32) × Int32 × Int32 × Int32 × Int32 × (Nat → Int32)) := if x1 = 0 then (M_takesItem_28 x2 (1 : Int32) y0 w tx td ap sp iw ig nu) else (M_takesItem_28 x2 (0 : Int32) y0 w tx td ap sp iw ig nu)
set_option maxHeartbeats 4000000 in
set_option maxRecDepth 100000 in
theorem bM_takesItem_19 {Am : Nat → Nat} {w : Nat → Int32} {kp : Nat → Int32} {tx : Nat → Int32} {td : Int32} {rf : Nat → Int32} {fa : Int64} {fb : Int64} {ap : Int32} {sp : Int32} {iw : Int32} {ig : Int32} {nu : Nat → Int32} {lst : Int32} {lwo : Int32} {hh : Int64} {w_z : Nat → Int32} {ap_z : Int32} {sp_z : Int32} {iw_z : Int32} {ig_z : Int32} {nu_z : Nat → Int32} {r0 : Int32} {x1 : Int32} {x2 : Int32} {y0 : Int32} (X : Cx Γ p s m args meth c RX12 cX12_takesItem 4 (some .boolean) w0) (hf : M_takesItem_19 x1 x2 y0 w tx td ap sp iw ig nu = some (r0, w_z, ap_z, sp_z, iw_z, ig_z, nu_z)) (Y : Wd Γ w0 s (WM Γ Am w kp tx td rf fa fb ap sp iw ig nu lst lwo hh) H locs) (hl : lv_has ls 4 [(0, .ref (Am 0)), (1, .int x1), (2, .int x2)]) : W p l e rmM_takesItem s m args below meth c H locs 0 0 (EI Γ below args s w0 (WM Γ Am w_z kp tx td rf fa fb ap_z sp_z iw_z ig_z nu_z lst lwo hh) r0) (F0 m 19 ls [.int y0]) := by
  have hx := X.1
  have hb := X.2.1
  refine lv_iload_n hx hb dX12_takesItem_19 rfl (lv_at hl 1 rfl) ?_
  refine lv_if_ne (tgt := 27) hx hb dX12_takesItem_20 (by decide) (fun c_1 => ?_) (fun c_1 => ?_)
  · have hf := ite_f hf c_1
    refine lv_iconst (v := (0 : Int32)) hx hb dX12_takesItem_27 (by decide) ?_
    exact bM_takesItem_28 X hf Y (lv_sub hl [0, 2] rfl)
  · have hf := ite_t hf c_1
    refine lv_iconst (v := (1 : Int32)) hx hb dX12_takesItem_23 (by decide) ?_
    refine lv_goto (tgt := 28) hx hb dX12_takesItem_24 (by decide) ?_
    exact bM_takesItem_28 X hf Y (lv_sub hl [0, 2] rfl)
def M_takesItem (x1 : Int32) (w : Nat → Int32) (tx : Nat → Int32) (td : Int32) (ap : Int32) (sp : Int32) (iw : Int32) (ig : Int32) (nu : Nat → Int32) : Option (Int32 × (Nat → Int32) × Int32 × Int32 × Int32 × Int32 × (Nat → Int32)) := bd1 (M_wordNow tx td ap sp iw) (fun (r_1 : Int32) => if r_1 = (-1 : Int32) then (some ((0 : Int32), w, ap, sp, iw, ig, nu)) else (if r_1 = 0 then (M_takesItem_19 x1 r_1 (1 : Int32) w tx td ap sp iw ig nu) else (M_takesItem_19 x1 r_1 (0 : Int32) w tx td ap sp iw ig nu)))
set_option maxHeartbeats 4000000 in
set_option maxRecDepth 100000 in
theorem bM_takesItem_e {Am : Nat → Nat} {w : Nat → Int32} {kp : Nat → Int32} {tx : Nat → Int32} {td : Int32} {rf : Nat → Int32} {fa : Int64} {fb : Int64} {ap : Int32} {sp : Int32} {iw : Int32} {ig : Int32} {nu : Nat → Int32} {lst : Int32} {lwo : Int32} {hh : Int64} {w_z : Nat → Int32} {ap_z : Int32} {sp_z : Int32} {iw_z : Int32} {ig_z : Int32} {nu_z : Nat → Int32} {r0 : Int32} {x1 : Int32} (X : Cx Γ p s m args meth c RX12 cX12_takesItem 4 (some .boolean) w0) (hf : M_takesItem x1 w tx td ap sp iw ig nu = some (r0, w_z, ap_z, sp_z, iw_z, ig_z, nu_z)) (Y : Wd Γ w0 s (WM Γ Am w kp tx td rf fa fb ap sp iw ig nu lst lwo hh) H locs) (hl : lv_has ls 4 [(0, .ref (Am 0)), (1, .int x1)]) : W p l e rmM_takesItem s m args below meth c H locs 0 0 (EI Γ below args s w0 (WM Γ Am w_z kp tx td rf fa fb ap_z sp_z iw_z ig_z nu_z lst lwo hh) r0) (F0 m 0 ls []) := by
  have hx := X.1
  have hb := X.2.1
  refine lv_aload_n hx hb dX12_takesItem_0 rfl (lv_at hl 0 rfl) ?_
  obtain ⟨r_1, ho_4, hf⟩ := bd1_some hf
  refine t_i Y (bkS Y) (r_V (As := []) (rest := []) X (c_preS X Y) (cM_wordNow ho_4) (cwX12_119 X (by decide)) (va_recv X.K Y.1 (q := (RX12, TX12, 15)) (q0 := 0) (ci := 12) rfl rfl) rfl hl.1 (Nat.le_of_ble_eq_true rfl) rfl dX12_takesItem_1 ⟨Nat.zero_le _, Nat.zero_le _⟩) (fun H locs Y => ?_)
  refine lv_istore_n (lv' := [(2, .int r_1), (0, .ref (Am 0)), (1, .int x1)]) hx hb dX12_takesItem_4 rfl hl (by decide) rfl (fun ls hl => ?_)
  refine lv_iload_n hx hb dX12_takesItem_5 rfl (lv_at hl 0 rfl) ?_
  refine lv_iconst (v := (-1 : Int32)) hx hb dX12_takesItem_6 (by decide) ?_
  refine lv_icmp_eq (tgt := 31) hx hb dX12_takesItem_7 (by decide) (fun c_2 => ?_) (fun c_2 => ?_)
  · have hf := ite_t hf c_2
    refine lv_iconst (v := (0 : Int32)) hx hb dX12_takesItem_31 (by decide) ?_
    obtain ⟨e90, e91, e92, e93, e94, e95, e96⟩ := sj7 hf
    subst e90
    subst e91
    subst e92
    subst e93
    subst e94
    subst e95
    subst e96
    exact x_zret X Y rfl dX12_takesItem_32
  · have hf := ite_f hf c_2
    refine lv_iload_n hx hb dX12_takesItem_10 rfl (lv_at hl 0 rfl) ?_
    refine lv_if_ne (tgt := 18) hx hb dX12_takesItem_11 (by decide) (fun c_3 => ?_) (fun c_3 => ?_)
    · have hf := ite_f hf c_3
      refine lv_iconst (v := (0 : Int32)) hx hb dX12_takesItem_18 (by decide) ?_
      exact bM_takesItem_19 X hf Y (lv_sub hl [1, 2, 0] rfl)
    · have hf := ite_t hf c_3
      refine lv_iconst (v := (1 : Int32)) hx hb dX12_takesItem_14 (by decide) ?_
      refine lv_goto (tgt := 19) hx hb dX12_takesItem_15 (by decide) ?_
      exact bM_takesItem_19 X hf Y (lv_sub hl [1, 2, 0] rfl)
theorem cM_takesItem {l : Launch} {Γ : Gm} {Am : Nat → Nat} {w : Nat → Int32} {kp : Nat → Int32} {tx : Nat → Int32} {td : Int32} {rf : Nat → Int32} {fa : Int64} {fb : Int64} {ap : Int32} {sp : Int32} {iw : Int32} {ig : Int32} {nu : Nat → Int32} {lst : Int32} {lwo : Int32} {hh : Int64} {w_z : Nat → Int32} {ap_z : Int32} {sp_z : Int32} {iw_z : Int32} {ig_z : Int32} {nu_z : Nat → Int32} {r0 : Int32} {x1 : Int32} (h : M_takesItem x1 w tx td ap sp iw ig nu = some (r0, w_z, ap_z, sp_z, iw_z, ig_z, nu_z)) : CI l Γ yX12_takesItem (Cond.code yX12_takesItem cX12_takesItem 4 (some .boolean) :: GW) rmM_takesItem [.ref (Am 0), .int x1] (WM Γ Am w kp tx td rf fa fb ap sp iw ig nu lst lwo hh) (WM Γ Am w_z kp tx td rf fa fb ap_z sp_z iw_z ig_z nu_z lst lwo hh) r0 := ofBody (Qc := QcI Γ _ _ r0) (by decide) (Nat.le_of_ble_eq_true rfl) (fun p e s m below meth c ls _ X Y hl => bM_takesItem_e X h Y hl)
theorem dmX12_copyV : yX12_copy.cls = RX12 ∧ yX12_copy.cls ≠ "java/lang/invoke/MethodHandle" ∧ yX12_copy.cls ≠ "java/lang/invoke/VarHandle" ∧ (parseMethodDescriptor yX12_copy.desc).map (fun d => d.parameters.length) = some 2 := by decide +kernel
theorem cwX12_135 (X : Cx Γ p s m args meth c RX12 cc nL ret w0) (hR : rmM_copy.frames + 1 ≤ R.frames ∧ 8 + (4 + 11) + rmM_copy.locals ≤ R.locals) : CallW R s args RX12 RX12 135 yX12_copy cX12_copy 4 none (Cond.code yX12_copy cX12_copy 4 none :: GW) rmM_copy 0 0 2 := cw_V X kw87 kw88 kw89 kw4 kw90 dmX12_copyV rfl rfl hR
theorem dmX12_takesItemV : yX12_takesItem.cls = RX12 ∧ yX12_takesItem.cls ≠ "java/lang/invoke/MethodHandle" ∧ yX12_takesItem.cls ≠ "java/lang/invoke/VarHandle" ∧ (parseMethodDescriptor yX12_takesItem.desc).map (fun d => d.parameters.length) = some 1 := by decide +kernel
theorem cwX12_132 (X : Cx Γ p s m args meth c RX12 cc nL ret w0) (hR : rmM_takesItem.frames + 1 ≤ R.frames ∧ 8 + (4 + 11) + rmM_takesItem.locals ≤ R.locals) : CallW R s args RX12 RX12 132 yX12_takesItem cX12_takesItem 4 (some .boolean) (Cond.code yX12_takesItem cX12_takesItem 4 (some .boolean) :: GW) rmM_takesItem 0 0 1 := cw_V X kw91 kw92 kw93 kw4 kw94 dmX12_takesItemV rfl rfl hR
def rmM_read : Room := { frames := 5, cells := 0, slots := 0, locals := 113 }
def M_read_35 (rc20 : Int32 → (Nat → Int32) → (Nat → Int32) → Int32 → Int32 → Int32 → Int32 → Int32 → (Nat → Int32) → Option (Int32 × (Nat → Int32) × Int32 × Int32 × Int32 × Int32 × (Nat → Int32))) (x1 : Int32) (w : Nat → Int32) (tx : Nat → Int32) (td : Int32) (ap : Int32) (sp : Int32) (iw : Int32) (ig : Int32) (nu : Nat → Int32) : Option (Int32 × (Nat → Int32) × Int32 × Int32 × Int32 × Int32 × (Nat → Int32)) := bd7 (M_takesItem x1 w tx td ap sp iw ig nu) (fun (r_1 : Int32) (w_2 : Nat → Int32) (ap_3 : Int32) (sp_4 : Int32) (iw_5 : Int32) (ig_6 : Int32) (nu_7 : Nat → Int32) => if r_1 = 0 then (some (((-10 : Int32) - sp_4), w_2, ap_3, sp_4, iw_5, ig_6, nu_7)) else (bnd (x1 + (1 : Int32)) (fun (x1_9 : Int32) => bd4 (M_token tx td ap_3 sp_4 iw_5 ig_6) (fun (ap_10 : Int32) (sp_11 : Int32) (iw_12 : Int32) (ig_13 : Int32) => rc20 x1_9 w_2 tx td ap_10 sp_11 iw_12 ig_13 nu_7))))
set_option maxHeartbeats 4000000 in
set_option maxRecDepth 100000 in
theorem bM_read_35 {Am : Nat → Nat} {w : Nat → Int32} {kp : Nat → Int32} {tx : Nat → Int32} {td : Int32} {rf : Nat → Int32} {fa : Int64} {fb : Int64} {ap : Int32} {sp : Int32} {iw : Int32} {ig : Int32} {nu : Nat → Int32} {lst : Int32} {lwo : Int32} {hh : Int64} {w_z : Nat → Int32} {ap_z : Int32} {sp_z : Int32} {iw_z : Int32} {ig_z : Int32} {nu_z : Nat → Int32} {r0 : Int32} {x1 : Int32} {rc20 : Int32 → (Nat → Int32) → (Nat → Int32) → Int32 → Int32 → Int32 → Int32 → Int32 → (Nat → Int32) → Option (Int32 × (Nat → Int32) × Int32 × Int32 × Int32 × Int32 × (Nat → Int32))} (X : Cx Γ p s m args meth c RX12 cX12_read 2 (some .int) w0) (h20 : ∀ (x1 : Int32) (w : Nat → Int32) (tx : Nat → Int32) (td : Int32) (ap : Int32) (sp : Int32) (iw : Int32) (ig : Int32) (nu : Nat → Int32), rc20 x1 w tx td ap sp iw ig nu = some (r0, w_z, ap_z, sp_z, iw_z, ig_z, nu_z) → ∀ (H : Heap) (locs : List Loc) (ls : Array Slot), Wd Γ w0 s (WM Γ Am w kp tx td rf fa fb ap sp iw ig nu lst lwo hh) H locs → lv_has ls 2 [(0, .ref (Am 0)), (1, .int x1)] → W p l e rmM_read s m args below meth c H locs 0 0 (EI Γ below args s w0 (WM Γ Am w_z kp tx td rf fa fb ap_z sp_z iw_z ig_z nu_z lst lwo hh) r0) (F0 m 20 ls [])) (hf : M_read_35 rc20 x1 w tx td ap sp iw ig nu = some (r0, w_z, ap_z, sp_z, iw_z, ig_z, nu_z)) (Y : Wd Γ w0 s (WM Γ Am w kp tx td rf fa fb ap sp iw ig nu lst lwo hh) H locs) (hl : lv_has ls 2 [(0, .ref (Am 0)), (1, .int x1)]) : W p l e rmM_read s m args below meth c H locs 0 0 (EI Γ below args s w0 (WM Γ Am w_z kp tx td rf fa fb ap_z sp_z iw_z ig_z nu_z lst lwo hh) r0) (F0 m 35 ls []) := by
  have hx := X.1
  have hb := X.2.1
  refine lv_aload_n hx hb dX12_read_35 rfl (lv_at hl 0 rfl) ?_
  refine lv_iload_n hx hb dX12_read_36 rfl (lv_at hl 1 rfl) ?_
  obtain ⟨r_1, w_2, ap_3, sp_4, iw_5, ig_6, nu_7, ho_15, hf⟩ := bd7_some hf
  refine t_i Y (bkS Y) (r_V (As := [.int x1]) (rest := []) X (c_preS X Y) (cM_takesItem ho_15) (cwX12_132 X (by decide)) (va_recv X.K Y.1 (q := (RX12, TX12, 15)) (q0 := 0) (ci := 12) rfl rfl) rfl hl.1 (Nat.le_of_ble_eq_true rfl) rfl dX12_read_37 ⟨Nat.zero_le _, Nat.zero_le _⟩) (fun H locs Y => ?_)
  refine lv_if_ne (tgt := 51) hx hb dX12_read_40 (by decide) (fun c_8 => ?_) (fun c_8 => ?_)
  · have hf := ite_f hf c_8
    obtain ⟨x1_9, e_x1_9⟩ : ∃ z : Int32, z = (x1 + (1 : Int32)) := ⟨_, rfl⟩
    have hf := bnd_eq hf e_x1_9
    refine lv_iinc (v := x1_9) (lv' := [(1, .int x1_9), (0, .ref (Am 0))]) hx hb dX12_read_51 hl (k := 1) rfl (by rw [e_x1_9]; rfl) (by decide) rfl (fun ls hl => ?_)
    refine lv_aload_n hx hb dX12_read_54 rfl (lv_at hl 1 rfl) ?_
    obtain ⟨ap_10, sp_11, iw_12, ig_13, ho_14, hf⟩ := bd4_some hf
    refine t_v Y (bkS Y) (r_V (As := []) (rest := []) X (c_preS X Y) (cM_token ho_14) (cwX12_112 X (by decide)) (va_recv X.K Y.1 (q := (RX12, TX12, 15)) (q0 := 0) (ci := 12) rfl rfl) rfl hl.1 (Nat.le_of_ble_eq_true rfl) rfl dX12_read_55 ⟨Nat.zero_le _, Nat.zero_le _⟩) (fun H locs Y => ?_)
    refine lv_goto (tgt := 20) hx hb dX12_read_58 (by decide) ?_
    exact h20 _ _ _ _ _ _ _ _ _ hf _ _ _ Y (lv_sub hl [1, 0] rfl)
  · have hf := ite_t hf c_8
    refine lv_bipush (v := (-10 : Int32)) hx hb dX12_read_43 (by decide) ?_
    refine lv_aload_n hx hb dX12_read_45 rfl (lv_at hl 0 rfl) ?_
    refine gfX12_91 X Y (v := .int sp_4) 0 rfl rfl dX12_read_46 ?_
    refine lv_isub hx hb dX12_read_49 ?_
    obtain ⟨e90, e91, e92, e93, e94, e95, e96⟩ := sj7 hf
    subst e90
    subst e91
    subst e92
    subst e93
    subst e94
    subst e95
    subst e96
    exact x_iret X Y dX12_read_50
def M_read_20 (rc20 : Int32 → (Nat → Int32) → (Nat → Int32) → Int32 → Int32 → Int32 → Int32 → Int32 → (Nat → Int32) → Option (Int32 × (Nat → Int32) × Int32 × Int32 × Int32 × Int32 × (Nat → Int32))) (x1 : Int32) (w : Nat → Int32) (tx : Nat → Int32) (td : Int32) (ap : Int32) (sp : Int32) (iw : Int32) (ig : Int32) (nu : Nat → Int32) : Option (Int32 × (Nat → Int32) × Int32 × Int32 × Int32 × Int32 × (Nat → Int32)) := if sp < td then (M_read_35 rc20 x1 w tx td ap sp iw ig nu) else (if x1 = 0 then (M_read_35 rc20 x1 w tx td ap sp iw ig nu) else (bd1 (M_copy (240 : Int32) (0 : Int32) w) (fun (w_3 : Nat → Int32) => some (x1, w_3, ap, sp, iw, ig, nu))))
set_option maxHeartbeats 4000000 in
set_option maxRecDepth 100000 in
theorem bM_read_20 {Am : Nat → Nat} {w : Nat → Int32} {kp : Nat → Int32} {tx : Nat → Int32} {td : Int32} {rf : Nat → Int32} {fa : Int64} {fb : Int64} {ap : Int32} {sp : Int32} {iw : Int32} {ig : Int32} {nu : Nat → Int32} {lst : Int32} {lwo : Int32} {hh : Int64} {w_z : Nat → Int32} {ap_z : Int32} {sp_z : Int32} {iw_z : Int32} {ig_z : Int32} {nu_z : Nat → Int32} {r0 : Int32} {x1 : Int32} {rc20 : Int32 → (Nat → Int32) → (Nat → Int32) → Int32 → Int32 → Int32 → Int32 → Int32 → (Nat → Int32) → Option (Int32 × (Nat → Int32) × Int32 × Int32 × Int32 × Int32 × (Nat → Int32))} (X : Cx Γ p s m args meth c RX12 cX12_read 2 (some .int) w0) (h20 : ∀ (x1 : Int32) (w : Nat → Int32) (tx : Nat → Int32) (td : Int32) (ap : Int32) (sp : Int32) (iw : Int32) (ig : Int32) (nu : Nat → Int32), rc20 x1 w tx td ap sp iw ig nu = some (r0, w_z, ap_z, sp_z, iw_z, ig_z, nu_z) → ∀ (H : Heap) (locs : List Loc) (ls : Array Slot), Wd Γ w0 s (WM Γ Am w kp tx td rf fa fb ap sp iw ig nu lst lwo hh) H locs → lv_has ls 2 [(0, .ref (Am 0)), (1, .int x1)] → W p l e rmM_read s m args below meth c H locs 0 0 (EI Γ below args s w0 (WM Γ Am w_z kp tx td rf fa fb ap_z sp_z iw_z ig_z nu_z lst lwo hh) r0) (F0 m 20 ls [])) (hf : M_read_20 rc20 x1 w tx td ap sp iw ig nu = some (r0, w_z, ap_z, sp_z, iw_z, ig_z, nu_z)) (Y : Wd Γ w0 s (WM Γ Am w kp tx td rf fa fb ap sp iw ig nu lst lwo hh) H locs) (hl : lv_has ls 2 [(0, .ref (Am 0)), (1, .int x1)]) : W p l e rmM_read s m args below meth c H locs 0 0 (EI Γ below args s w0 (WM Γ Am w_z kp tx td rf fa fb ap_z sp_z iw_z ig_z nu_z lst lwo hh) r0) (F0 m 20 ls []) := by
  have hx := X.1
  have hb := X.2.1
  refine lv_aload_n hx hb dX12_read_20 rfl (lv_at hl 0 rfl) ?_
  refine gfX12_91 X Y (v := .int sp) 0 rfl rfl dX12_read_21 ?_
  refine lv_aload_n hx hb dX12_read_24 rfl (lv_at hl 0 rfl) ?_
  refine gfX12_80 X Y (v := .int td) 0 rfl rfl dX12_read_25 ?_
  refine lv_icmp_lt (tgt := 35) hx hb dX12_read_28 (by decide) (fun c_1 => ?_) (fun c_1 => ?_)
  · have hf := ite_t hf c_1
    exact bM_read_35 X h20 hf Y (lv_sub hl [0, 1] rfl)
  · have hf := ite_f hf c_1
    refine lv_iload_n hx hb dX12_read_31 rfl (lv_at hl 1 rfl) ?_
    refine lv_if_ne (tgt := 61) hx hb dX12_read_32 (by decide) (fun c_2 => ?_) (fun c_2 => ?_)
    · have hf := ite_f hf c_2
      refine lv_aload_n hx hb dX12_read_61 rfl (lv_at hl 0 rfl) ?_
      refine lv_sipush (v := (240 : Int32)) hx hb dX12_read_62 (by decide) ?_
      refine lv_iconst (v := (0 : Int32)) hx hb dX12_read_65 (by decide) ?_
      obtain ⟨w_3, ho_4, hf⟩ := bd1_some hf
      refine t_v Y (bkS Y) (r_V (As := [.int (240 : Int32), .int (0 : Int32)]) (rest := []) X (c_preS X Y) (cM_copy ho_4) (cwX12_135 X (by decide)) (va_recv X.K Y.1 (q := (RX12, TX12, 15)) (q0 := 0) (ci := 12) rfl rfl) rfl hl.1 (Nat.le_of_ble_eq_true rfl) rfl dX12_read_66 ⟨Nat.zero_le _, Nat.zero_le _⟩) (fun H locs Y => ?_)
      refine lv_iload_n hx hb dX12_read_69 rfl (lv_at hl 1 rfl) ?_
      obtain ⟨e90, e91, e92, e93, e94, e95, e96⟩ := sj7 hf
      subst e90
      subst e91
      subst e92
      subst e93
      subst e94
      subst e95
      subst e96
      exact x_iret X Y dX12_read_70
    · have hf := ite_t hf c_2
      exact bM_read_35 X h20 hf Y (lv_sub hl [0, 1] rfl)
def M_read_L20 : Nat → Int32 → (Nat → Int32) → (Nat → Int32) → Int32 → Int32 → Int32 → Int32 → Int32 → (Nat → Int32) → Option (Int32 × (Nat → Int32) × Int32 × Int32 × Int32 × Int32 × (Nat → Int32))
  | 0, _, _, _, _, _, _, _, _, _ => none
  | n + 1, x1, w, tx, td, ap, sp, iw, ig, nu => M_read_20 (M_read_L20 n) x1 w tx td ap sp iw ig nu
theorem lM_read_20 {Am : Nat → Nat} {kp : Nat → Int32} {rf : Nat → Int32} {fa : Int64} {fb : Int64} {lst : Int32} {lwo : Int32} {hh : Int64} {w_z : Nat → Int32} {ap_z : Int32} {sp_z : Int32} {iw_z : Int32} {ig_z : Int32} {nu_z : Nat → Int32} {r0 : Int32} (X : Cx Γ p s m args meth c RX12 cX12_read 2 (some .int) w0) : ∀ (n : Nat) (x1 : Int32) (w : Nat → Int32) (tx : Nat → Int32) (td : Int32) (ap : Int32) (sp : Int32) (iw : Int32) (ig : Int32) (nu : Nat → Int32), M_read_L20 n x1 w tx td ap sp iw ig nu = some (r0, w_z, ap_z, sp_z, iw_z, ig_z, nu_z) → ∀ (H : Heap) (locs : List Loc) (ls : Array Slot), Wd Γ w0 s (WM Γ Am w kp tx td rf fa fb ap sp iw ig nu lst lwo hh) H locs → lv_has ls 2 [(0, .ref (Am 0)), (1, .int x1)] → W p l e rmM_read s m args below meth c H locs 0 0 (EI Γ below args s w0 (WM Γ Am w_z kp tx td rf fa fb ap_z sp_z iw_z ig_z nu_z lst lwo hh) r0) (F0 m 20 ls []) := by
  intro n
  induction n with
  | zero => intro x1 w tx td ap sp iw ig nu hf; cases hf
  | succ n ih => intro x1 w tx td ap sp iw ig nu hf H locs ls Y hl; exact bM_read_20 X ih hf Y hl
def M_read (w : Nat → Int32) (tx : Nat → Int32) (td : Int32) (ap : Int32) (sp : Int32) (iw : Int32) (ig : Int32) (nu : Nat → Int32) : Option (Int32 × (Nat → Int32) × Int32 × Int32 × Int32 × Int32 × (Nat → Int32)) := bd1 (M_begins (240 : Int32) (0 : Int32) (0 : Int32) w) (fun (w_1 : Nat → Int32) => bd4 (M_token tx td (0 : Int32) sp iw ig) (fun (ap_2 : Int32) (sp_3 : Int32) (iw_4 : Int32) (ig_5 : Int32) => M_read_L20 FU (0 : Int32) w_1 tx td ap_2 sp_3 iw_4 ig_5 nu))
set_option maxHeartbeats 4000000 in
set_option maxRecDepth 100000 in
theorem bM_read_e {Am : Nat → Nat} {w : Nat → Int32} {kp : Nat → Int32} {tx : Nat → Int32} {td : Int32} {rf : Nat → Int32} {fa : Int64} {fb : Int64} {ap : Int32} {sp : Int32} {iw : Int32} {ig : Int32} {nu : Nat → Int32} {lst : Int32} {lwo : Int32} {hh : Int64} {w_z : Nat → Int32} {ap_z : Int32} {sp_z : Int32} {iw_z : Int32} {ig_z : Int32} {nu_z : Nat → Int32} {r0 : Int32} (X : Cx Γ p s m args meth c RX12 cX12_read 2 (some .int) w0) (hf : M_read w tx td ap sp iw ig nu = some (r0, w_z, ap_z, sp_z, iw_z, ig_z, nu_z)) (Y : Wd Γ w0 s (WM Γ Am w kp tx td rf fa fb ap sp iw ig nu lst lwo hh) H locs) (hl : lv_has ls 2 [(0, .ref (Am 0))]) : W p l e rmM_read s m args below meth c H locs 0 0 (EI Γ below args s w0 (WM Γ Am w_z kp tx td rf fa fb ap_z sp_z iw_z ig_z nu_z lst lwo hh) r0) (F0 m 0 ls []) := by
  have hx := X.1
  have hb := X.2.1
  refine lv_aload_n hx hb dX12_read_0 rfl (lv_at hl 0 rfl) ?_
  refine lv_iconst (v := (0 : Int32)) hx hb dX12_read_1 (by decide) ?_
  refine pfX12_84 X Y 0 rfl rfl rfl (Nat.le_of_ble_eq_true rfl) (ws' := (WM Γ Am w kp tx td rf fa fb (0 : Int32) sp iw ig nu lst lwo hh)) rfl dX12_read_2 (fun H locs Y => ?_)
  refine lv_iconst (v := (0 : Int32)) hx hb dX12_read_5 (by decide) ?_
  refine lv_istore_n (lv' := [(1, .int (0 : Int32)), (0, .ref (Am 0))]) hx hb dX12_read_6 rfl hl (by decide) rfl (fun ls hl => ?_)
  refine lv_aload_n hx hb dX12_read_7 rfl (lv_at hl 1 rfl) ?_
  refine lv_sipush (v := (240 : Int32)) hx hb dX12_read_8 (by decide) ?_
  refine lv_iconst (v := (0 : Int32)) hx hb dX12_read_11 (by decide) ?_
  refine lv_iconst (v := (0 : Int32)) hx hb dX12_read_12 (by decide) ?_
  obtain ⟨w_1, ho_7, hf⟩ := bd1_some hf
  refine t_v Y (bkS Y) (r_V (As := [.int (240 : Int32), .int (0 : Int32), .int (0 : Int32)]) (rest := []) X (c_preS X Y) (cM_begins ho_7) (cwX12_30 X (by decide)) (va_recv X.K Y.1 (q := (RX12, TX12, 15)) (q0 := 0) (ci := 12) rfl rfl) rfl hl.1 (Nat.le_of_ble_eq_true rfl) rfl dX12_read_13 ⟨Nat.zero_le _, Nat.zero_le _⟩) (fun H locs Y => ?_)
  refine lv_aload_n hx hb dX12_read_16 rfl (lv_at hl 1 rfl) ?_
  obtain ⟨ap_2, sp_3, iw_4, ig_5, ho_6, hf⟩ := bd4_some hf
  refine t_v Y (bkS Y) (r_V (As := []) (rest := []) X (c_preS X Y) (cM_token ho_6) (cwX12_112 X (by decide)) (va_recv X.K Y.1 (q := (RX12, TX12, 15)) (q0 := 0) (ci := 12) rfl rfl) rfl hl.1 (Nat.le_of_ble_eq_true rfl) rfl dX12_read_17 ⟨Nat.zero_le _, Nat.zero_le _⟩) (fun H locs Y => ?_)
  exact lM_read_20 X _ _ _ _ _ _ _ _ _ _ hf _ _ _ Y (lv_sub hl [1, 0] rfl)
theorem cM_read {l : Launch} {Γ : Gm} {Am : Nat → Nat} {w : Nat → Int32} {kp : Nat → Int32} {tx : Nat → Int32} {td : Int32} {rf : Nat → Int32} {fa : Int64} {fb : Int64} {ap : Int32} {sp : Int32} {iw : Int32} {ig : Int32} {nu : Nat → Int32} {lst : Int32} {lwo : Int32} {hh : Int64} {w_z : Nat → Int32} {ap_z : Int32} {sp_z : Int32} {iw_z : Int32} {ig_z : Int32} {nu_z : Nat → Int32} {r0 : Int32} (h : M_read w tx td ap sp iw ig nu = some (r0, w_z, ap_z, sp_z, iw_z, ig_z, nu_z)) : CI l Γ yX12_read (Cond.code yX12_read cX12_read 2 (some .int) :: GW) rmM_read [.ref (Am 0)] (WM Γ Am w kp tx td rf fa fb ap sp iw ig nu lst lwo hh) (WM Γ Am w_z kp tx td rf fa fb ap_z sp_z iw_z ig_z nu_z lst lwo hh) r0 := ofBody (Qc := QcI Γ _ _ r0) (by decide) (Nat.le_of_ble_eq_true rfl) (fun p e s m below meth c ls _ X Y hl => bM_read_e X h Y hl)
def rmM_goodOf : Room := { frames := 0, cells := 0, slots := 0, locals := 0 }
def M_goodOf (x0 : Int32) (x1 : Int32) : Option (Int32) := if x0 = (1 : Int32) then (some (0 : Int32)) else (if x0 = (2 : Int32) then (some x1) else (if x0 = (3 : Int32) then (some (((3 : Int32) * x1) / (4 : Int32))) else (if x0 = (4 : Int32) then (some (5 : Int32)) else (if x0 = (5 : Int32) then (some ((((3 : Int32) * x1) / (4 : Int32)) / (2 : Int32))) else (some x1)))))
set_option maxHeartbeats 4000000 in
set_option maxRecDepth 100000 in
theorem bM_goodOf_e {r0 : Int32} {x0 : Int32} {x1 : Int32} (X : Cx Γ p s m args meth c RX12 cX12_goodOf 2 (some .int) w0) (hf : M_goodOf x0 x1 = some r0) (Y : Wd Γ w0 s ([] : va_W) H locs) (hl : lv_has ls 2 [(0, .int x0), (1, .int x1)]) : W p l e rmM_goodOf s m args below meth c H locs 0 0 (EI Γ below args s w0 ([] : va_W) r0) (F0 m 0 ls []) := by
  have hx := X.1
  have hb := X.2.1
  refine lv_iload_n hx hb dX12_goodOf_0 rfl (lv_at hl 0 rfl) ?_
  by_cases c_1 : x0 = (1 : Int32)
  · have hf := ite_t hf c_1
    have et : (x0).toInt = 1 := by rw [c_1]; rfl
    refine lv_tableIn (tgt := 36) (off := 35) hx hb dX12_goodOf_1 (by rw [et]; decide) (by rw [et]; decide) (by rw [et]; rfl) (by decide) ?_
    refine lv_iconst (v := (0 : Int32)) hx hb dX12_goodOf_36 (by decide) ?_
    have e90 := Option.some.inj hf
    subst e90
    exact x_iret X Y dX12_goodOf_37
  have hf := ite_f hf c_1
  by_cases c_2 : x0 = (2 : Int32)
  · have hf := ite_t hf c_2
    have et : (x0).toInt = 2 := by rw [c_2]; rfl
    refine lv_tableIn (tgt := 54) (off := 53) hx hb dX12_goodOf_1 (by rw [et]; decide) (by rw [et]; decide) (by rw [et]; rfl) (by decide) ?_
    refine lv_iload_n hx hb dX12_goodOf_54 rfl (lv_at hl 1 rfl) ?_
    have e90 := Option.some.inj hf
    subst e90
    exact x_iret X Y dX12_goodOf_55
  have hf := ite_f hf c_2
  by_cases c_3 : x0 = (3 : Int32)
  · have hf := ite_t hf c_3
    have et : (x0).toInt = 3 := by rw [c_3]; rfl
    refine lv_tableIn (tgt := 38) (off := 37) hx hb dX12_goodOf_1 (by rw [et]; decide) (by rw [et]; decide) (by rw [et]; rfl) (by decide) ?_
    refine lv_iconst (v := (3 : Int32)) hx hb dX12_goodOf_38 (by decide) ?_
    refine lv_iload_n hx hb dX12_goodOf_39 rfl (lv_at hl 1 rfl) ?_
    refine lv_imul hx hb dX12_goodOf_40 ?_
    refine lv_iconst (v := (4 : Int32)) hx hb dX12_goodOf_41 (by decide) ?_
    refine lv_idiv hx hb dX12_goodOf_42 (by decide) ?_
    have e90 := Option.some.inj hf
    subst e90
    exact x_iret X Y dX12_goodOf_43
  have hf := ite_f hf c_3
  by_cases c_4 : x0 = (4 : Int32)
  · have hf := ite_t hf c_4
    have et : (x0).toInt = 4 := by rw [c_4]; rfl
    refine lv_tableIn (tgt := 44) (off := 43) hx hb dX12_goodOf_1 (by rw [et]; decide) (by rw [et]; decide) (by rw [et]; rfl) (by decide) ?_
    refine lv_iconst (v := (5 : Int32)) hx hb dX12_goodOf_44 (by decide) ?_
    have e90 := Option.some.inj hf
    subst e90
    exact x_iret X Y dX12_goodOf_45
  have hf := ite_f hf c_4
  by_cases c_5 : x0 = (5 : Int32)
  · have hf := ite_t hf c_5
    have et : (x0).toInt = 5 := by rw [c_5]; rfl
    refine lv_tableIn (tgt := 46) (off := 45) hx hb dX12_goodOf_1 (by rw [et]; decide) (by rw [et]; decide) (by rw [et]; rfl) (by decide) ?_
    refine lv_iconst (v := (3 : Int32)) hx hb dX12_goodOf_46 (by decide) ?_
    refine lv_iload_n hx hb dX12_goodOf_47 rfl (lv_at hl 1 rfl) ?_
    refine lv_imul hx hb dX12_goodOf_48 ?_
    refine lv_iconst (v := (4 : Int32)) hx hb dX12_goodOf_49 (by decide) ?_
    refine lv_idiv hx hb dX12_goodOf_50 (by decide) ?_
    refine lv_iconst (v := (2 : Int32)) hx hb dX12_goodOf_51 (by decide) ?_
    refine lv_idiv hx hb dX12_goodOf_52 (by decide) ?_
    have e90 := Option.some.inj hf
    subst e90
    exact x_iret X Y dX12_goodOf_53
  have hf := ite_f hf c_5
  have hout : (x0).toInt < 1 ∨ 5 < (x0).toInt := by
    have qc_1 := lv_neT c_1 (show ((1 : Int32)).toInt = 1 by rfl)
    have qc_2 := lv_neT c_2 (show ((2 : Int32)).toInt = 2 by rfl)
    have qc_3 := lv_neT c_3 (show ((3 : Int32)).toInt = 3 by rfl)
    have qc_4 := lv_neT c_4 (show ((4 : Int32)).toInt = 4 by rfl)
    have qc_5 := lv_neT c_5 (show ((5 : Int32)).toInt = 5 by rfl)
    omega
  refine lv_tableOut (tgt := 54) hx hb dX12_goodOf_1 hout (by decide) ?_
  refine lv_iload_n hx hb dX12_goodOf_54 rfl (lv_at hl 1 rfl) ?_
  have e90 := Option.some.inj hf
  subst e90
  exact x_iret X Y dX12_goodOf_55
theorem cM_goodOf {l : Launch} {Γ : Gm} {r0 : Int32} {x0 : Int32} {x1 : Int32} (h : M_goodOf x0 x1 = some r0) : CI l Γ yX12_goodOf (Cond.code yX12_goodOf cX12_goodOf 2 (some .int) :: GW) rmM_goodOf [.int x0, .int x1] ([] : va_W) ([] : va_W) r0 := ofBody (Qc := QcI Γ _ _ r0) (by decide) (Nat.le_of_ble_eq_true rfl) (fun p e s m below meth c ls _ X Y hl => bM_goodOf_e X h Y hl)
def rmM_bearsOf : Room := { frames := 0, cells := 0, slots := 0, locals := 0 }
def M_bearsOf (x0 : Int32) (x1 : Int32) : Option (Int32) := if x0 = (2 : Int32) then (some (x1 / (2 : Int32))) else (if x0 = (3 : Int32) then (some x1) else (if x0 = (4 : Int32) then (some (0 : Int32)) else (if x0 = (5 : Int32) then (some (x1 + (3 : Int32))) else (some x1))))
set_option maxHeartbeats 4000000 in
set_option maxRecDepth 100000 in
theorem bM_bearsOf_e {r0 : Int32} {x0 : Int32} {x1 : Int32} (X : Cx Γ p s m args meth c RX12 cX12_bearsOf 2 (some .int) w0) (hf : M_bearsOf x0 x1 = some r0) (Y : Wd Γ w0 s ([] : va_W) H locs) (hl : lv_has ls 2 [(0, .int x0), (1, .int x1)]) : W p l e rmM_bearsOf s m args below meth c H locs 0 0 (EI Γ below args s w0 ([] : va_W) r0) (F0 m 0 ls []) := by
  have hx := X.1
  have hb := X.2.1
  refine lv_iload_n hx hb dX12_bearsOf_0 rfl (lv_at hl 0 rfl) ?_
  by_cases c_1 : x0 = (2 : Int32)
  · have hf := ite_t hf c_1
    have et : (x0).toInt = 2 := by rw [c_1]; rfl
    refine lv_tableIn (tgt := 32) (off := 31) hx hb dX12_bearsOf_1 (by rw [et]; decide) (by rw [et]; decide) (by rw [et]; rfl) (by decide) ?_
    refine lv_iload_n hx hb dX12_bearsOf_32 rfl (lv_at hl 1 rfl) ?_
    refine lv_iconst (v := (2 : Int32)) hx hb dX12_bearsOf_33 (by decide) ?_
    refine lv_idiv hx hb dX12_bearsOf_34 (by decide) ?_
    have e90 := Option.some.inj hf
    subst e90
    exact x_iret X Y dX12_bearsOf_35
  have hf := ite_f hf c_1
  by_cases c_2 : x0 = (3 : Int32)
  · have hf := ite_t hf c_2
    have et : (x0).toInt = 3 := by rw [c_2]; rfl
    refine lv_tableIn (tgt := 42) (off := 41) hx hb dX12_bearsOf_1 (by rw [et]; decide) (by rw [et]; decide) (by rw [et]; rfl) (by decide) ?_
    refine lv_iload_n hx hb dX12_bearsOf_42 rfl (lv_at hl 1 rfl) ?_
    have e90 := Option.some.inj hf
    subst e90
    exact x_iret X Y dX12_bearsOf_43
  have hf := ite_f hf c_2
  by_cases c_3 : x0 = (4 : Int32)
  · have hf := ite_t hf c_3
    have et : (x0).toInt = 4 := by rw [c_3]; rfl
    refine lv_tableIn (tgt := 36) (off := 35) hx hb dX12_bearsOf_1 (by rw [et]; decide) (by rw [et]; decide) (by rw [et]; rfl) (by decide) ?_
    refine lv_iconst (v := (0 : Int32)) hx hb dX12_bearsOf_36 (by decide) ?_
    have e90 := Option.some.inj hf
    subst e90
    exact x_iret X Y dX12_bearsOf_37
  have hf := ite_f hf c_3
  by_cases c_4 : x0 = (5 : Int32)
  · have hf := ite_t hf c_4
    have et : (x0).toInt = 5 := by rw [c_4]; rfl
    refine lv_tableIn (tgt := 38) (off := 37) hx hb dX12_bearsOf_1 (by rw [et]; decide) (by rw [et]; decide) (by rw [et]; rfl) (by decide) ?_
    refine lv_iload_n hx hb dX12_bearsOf_38 rfl (lv_at hl 1 rfl) ?_
    refine lv_iconst (v := (3 : Int32)) hx hb dX12_bearsOf_39 (by decide) ?_
    refine lv_iadd hx hb dX12_bearsOf_40 ?_
    have e90 := Option.some.inj hf
    subst e90
    exact x_iret X Y dX12_bearsOf_41
  have hf := ite_f hf c_4
  have hout : (x0).toInt < 2 ∨ 5 < (x0).toInt := by
    have qc_1 := lv_neT c_1 (show ((2 : Int32)).toInt = 2 by rfl)
    have qc_2 := lv_neT c_2 (show ((3 : Int32)).toInt = 3 by rfl)
    have qc_3 := lv_neT c_3 (show ((4 : Int32)).toInt = 4 by rfl)
    have qc_4 := lv_neT c_4 (show ((5 : Int32)).toInt = 5 by rfl)
    omega
  refine lv_tableOut (tgt := 42) hx hb dX12_bearsOf_1 hout (by decide) ?_
  refine lv_iload_n hx hb dX12_bearsOf_42 rfl (lv_at hl 1 rfl) ?_
  have e90 := Option.some.inj hf
  subst e90
  exact x_iret X Y dX12_bearsOf_43
theorem cM_bearsOf {l : Launch} {Γ : Gm} {r0 : Int32} {x0 : Int32} {x1 : Int32} (h : M_bearsOf x0 x1 = some r0) : CI l Γ yX12_bearsOf (Cond.code yX12_bearsOf cX12_bearsOf 2 (some .int) :: GW) rmM_bearsOf [.int x0, .int x1] ([] : va_W) ([] : va_W) r0 := ofBody (Qc := QcI Γ _ _ r0) (by decide) (Nat.le_of_ble_eq_true rfl) (fun p e s m below meth c ls _ X Y hl => bM_bearsOf_e X h Y hl)
theorem dmX12_goodOfS : yX12_goodOf.cls ≠ "java/lang/invoke/MethodHandle" ∧ yX12_goodOf.cls ≠ "java/lang/invoke/VarHandle" ∧ (parseMethodDescriptor yX12_goodOf.desc).map (fun d => d.parameters.length) = some 2 := by decide +kernel
theorem cwX12_139 (X : Cx Γ p s m args meth c RX12 cc nL ret w0) (hR : rmM_goodOf.frames + 1 ≤ R.frames ∧ 8 + (2 + 11) + rmM_goodOf.locals ≤ R.locals) : CallB R s args RX12 139 yX12_goodOf cX12_goodOf 2 (some .int) (Cond.code yX12_goodOf cX12_goodOf 2 (some .int) :: GW) rmM_goodOf 0 0 2 ∧ (Cond.static yX12_goodOf).before args s = true := cw_S X kw95 kw96 kw4 kw97 dmX12_goodOfS rfl rfl hR
def rmM_madeGood : Room := { frames := 1, cells := 0, slots := 0, locals := 21 }
def M_madeGood (x1 : Int32) (w : Nat → Int32) : Option (Int32) := ck (inb ((6 : Int32) + x1) 320) (ck (inb ((46 : Int32) + x1) 320) (bd1 (M_goodOf (w ((6 : Int32) + x1).toNatClampNeg) (w ((46 : Int32) + x1).toNatClampNeg)) (fun (r_3 : Int32) => some r_3)))
set_option maxHeartbeats 4000000 in
set_option maxRecDepth 100000 in
theorem bM_madeGood_e {Am : Nat → Nat} {w : Nat → Int32} {kp : Nat → Int32} {tx : Nat → Int32} {td : Int32} {rf : Nat → Int32} {fa : Int64} {fb : Int64} {ap : Int32} {sp : Int32} {iw : Int32} {ig : Int32} {nu : Nat → Int32} {lst : Int32} {lwo : Int32} {hh : Int64} {r0 : Int32} {x1 : Int32} (X : Cx Γ p s m args meth c RX12 cX12_madeGood 2 (some .int) w0) (hf : M_madeGood x1 w = some r0) (Y : Wd Γ w0 s (WM Γ Am w kp tx td rf fa fb ap sp iw ig nu lst lwo hh) H locs) (hl : lv_has ls 2 [(0, .ref (Am 0)), (1, .int x1)]) : W p l e rmM_madeGood s m args below meth c H locs 0 0 (EI Γ below args s w0 (WM Γ Am w kp tx td rf fa fb ap sp iw ig nu lst lwo hh) r0) (F0 m 0 ls []) := by
  have hx := X.1
  have hb := X.2.1
  refine lv_aload_n hx hb dX12_madeGood_0 rfl (lv_at hl 0 rfl) ?_
  refine gfX12_7 X Y (v := .ref (Am 1)) 0 rfl rfl dX12_madeGood_1 ?_
  refine lv_bipush (v := (6 : Int32)) hx hb dX12_madeGood_4 (by decide) ?_
  refine lv_iload_n hx hb dX12_madeGood_6 rfl (lv_at hl 1 rfl) ?_
  refine lv_iadd hx hb dX12_madeGood_7 ?_
  obtain ⟨hi_1, hf⟩ := ck_some hf
  refine x_iald X Y 1 rfl rfl hi_1 dX12_madeGood_8 ?_
  refine lv_aload_n hx hb dX12_madeGood_9 rfl (lv_at hl 0 rfl) ?_
  refine gfX12_7 X Y (v := .ref (Am 1)) 0 rfl rfl dX12_madeGood_10 ?_
  refine lv_bipush (v := (46 : Int32)) hx hb dX12_madeGood_13 (by decide) ?_
  refine lv_iload_n hx hb dX12_madeGood_15 rfl (lv_at hl 1 rfl) ?_
  refine lv_iadd hx hb dX12_madeGood_16 ?_
  obtain ⟨hi_2, hf⟩ := ck_some hf
  refine x_iald X Y 1 rfl rfl hi_2 dX12_madeGood_17 ?_
  obtain ⟨r_3, ho_4, hf⟩ := bd1_some hf
  refine t_i Y (bk0 Y) (r_S (As := [.int (w ((6 : Int32) + x1).toNatClampNeg), .int (w ((46 : Int32) + x1).toNatClampNeg)]) (rest := []) X (c_pre0 X Y) (cM_goodOf ho_4) (cwX12_139 X (by decide)) rfl hl.1 (Nat.le_of_ble_eq_true rfl) rfl dX12_madeGood_18 ⟨Nat.zero_le _, Nat.zero_le _⟩) (fun H locs Y => ?_)
  have e90 := Option.some.inj hf
  subst e90
  exact x_iret X Y dX12_madeGood_21
theorem cM_madeGood {l : Launch} {Γ : Gm} {Am : Nat → Nat} {w : Nat → Int32} {kp : Nat → Int32} {tx : Nat → Int32} {td : Int32} {rf : Nat → Int32} {fa : Int64} {fb : Int64} {ap : Int32} {sp : Int32} {iw : Int32} {ig : Int32} {nu : Nat → Int32} {lst : Int32} {lwo : Int32} {hh : Int64} {r0 : Int32} {x1 : Int32} (h : M_madeGood x1 w = some r0) : CI l Γ yX12_madeGood (Cond.code yX12_madeGood cX12_madeGood 2 (some .int) :: GW) rmM_madeGood [.ref (Am 0), .int x1] (WM Γ Am w kp tx td rf fa fb ap sp iw ig nu lst lwo hh) (WM Γ Am w kp tx td rf fa fb ap sp iw ig nu lst lwo hh) r0 := ofBody (Qc := QcI Γ _ _ r0) (by decide) (Nat.le_of_ble_eq_true rfl) (fun p e s m below meth c ls _ X Y hl => bM_madeGood_e X h Y hl)
theorem dmX12_madeGoodV : yX12_madeGood.cls = RX12 ∧ yX12_madeGood.cls ≠ "java/lang/invoke/MethodHandle" ∧ yX12_madeGood.cls ≠ "java/lang/invoke/VarHandle" ∧ (parseMethodDescriptor yX12_madeGood.desc).map (fun d => d.parameters.length) = some 1 := by decide +kernel
theorem cwX12_143 (X : Cx Γ p s m args meth c RX12 cc nL ret w0) (hR : rmM_madeGood.frames + 1 ≤ R.frames ∧ 8 + (2 + 11) + rmM_madeGood.locals ≤ R.locals) : CallW R s args RX12 RX12 143 yX12_madeGood cX12_madeGood 2 (some .int) (Cond.code yX12_madeGood cX12_madeGood 2 (some .int) :: GW) rmM_madeGood 0 0 1 := cw_V X kw98 kw99 kw100 kw4 kw101 dmX12_madeGoodV rfl rfl hR
def rmM_lossOf : Room := { frames := 2, cells := 0, slots := 0, locals := 42 }
def M_lossOf_46 (rc4 : Int32 → Int32 → Int32 → (Nat → Int32) → Option (Int32)) (x1 : Int32) (x3 : Int32) (y0 : Int32) (w : Nat → Int32) : Option (Int32) := bd1 (M_madeGood x3 w) (fun (r_1 : Int32) => bnd (y0 + r_1) (fun (x2_2 : Int32) => bnd (x3 + (1 : Int32)) (fun (x3_3 : Int32) => rc4 x1 x2_2 x3_3 w)))
set_option maxHeartbeats 4000000 in
set_option maxRecDepth 100000 in
theorem bM_lossOf_46 {Am : Nat → Nat} {w : Nat → Int32} {kp : Nat → Int32} {tx : Nat → Int32} {td : Int32} {rf : Nat → Int32} {fa : Int64} {fb : Int64} {ap : Int32} {sp : Int32} {iw : Int32} {ig : Int32} {nu : Nat → Int32} {lst : Int32} {lwo : Int32} {hh : Int64} {r0 : Int32} {x1 : Int32} {x3 : Int32} {y0 : Int32} {rc4 : Int32 → Int32 → Int32 → (Nat → Int32) → Option (Int32)} (X : Cx Γ p s m args meth c RX12 cX12_lossOf 4 (some .int) w0) (h4 : ∀ (x1 : Int32) (x2 : Int32) (x3 : Int32) (w : Nat → Int32), rc4 x1 x2 x3 w = some r0 → ∀ (H : Heap) (locs : List Loc) (ls : Array Slot), Wd Γ w0 s (WM Γ Am w kp tx td rf fa fb ap sp iw ig nu lst lwo hh) H locs → lv_has ls 4 [(0, .ref (Am 0)), (1, .int x1), (2, .int x2), (3, .int x3)] → W p l e rmM_lossOf s m args below meth c H locs 0 0 (EI Γ below args s w0 (WM Γ Am w kp tx td rf fa fb ap sp iw ig nu lst lwo hh) r0) (F0 m 4 ls [])) (hf : M_lossOf_46 rc4 x1 x3 y0 w = some r0) (Y : Wd Γ w0 s (WM Γ Am w kp tx td rf fa fb ap sp iw ig nu lst lwo hh) H locs) (hl : lv_has ls 4 [(0, .ref (Am 0)), (1, .int x1), (3, .int x3)]) : W p l e rmM_lossOf s m args below meth c H locs 0 0 (EI Γ below args s w0 (WM Γ Am w kp tx td rf fa fb ap sp iw ig nu lst lwo hh) r0) (F0 m 46 ls [.int y0]) := by
  have hx := X.1
  have hb := X.2.1
  refine lv_aload_n hx hb dX12_lossOf_46 rfl (lv_at hl 0 rfl) ?_
  refine lv_iload_n hx hb dX12_lossOf_47 rfl (lv_at hl 2 rfl) ?_
  obtain ⟨r_1, ho_4, hf⟩ := bd1_some hf
  refine t_i Y (bkS Y) (r_V (As := [.int x3]) (rest := [.int y0]) X (c_preS X Y) (cM_madeGood ho_4) (cwX12_143 X (by decide)) (va_recv X.K Y.1 (q := (RX12, TX12, 15)) (q0 := 0) (ci := 12) rfl rfl) rfl hl.1 (Nat.le_of_ble_eq_true rfl) rfl dX12_lossOf_48 ⟨Nat.zero_le _, Nat.zero_le _⟩) (fun H locs Y => ?_)
  refine lv_goto (tgt := 55) hx hb dX12_lossOf_51 (by decide) ?_
  refine lv_iadd hx hb dX12_lossOf_55 ?_
  refine lv_topi (fun x2_2 e_x2_2 => ?_)
  have hf := bnd_eq hf e_x2_2
  refine lv_istore_n (lv' := [(2, .int x2_2), (0, .ref (Am 0)), (1, .int x1), (3, .int x3)]) hx hb dX12_lossOf_56 rfl hl (by decide) rfl (fun ls hl => ?_)
  obtain ⟨x3_3, e_x3_3⟩ : ∃ z : Int32, z = (x3 + (1 : Int32)) := ⟨_, rfl⟩
  have hf := bnd_eq hf e_x3_3
  refine lv_iinc (v := x3_3) (lv' := [(3, .int x3_3), (2, .int x2_2), (0, .ref (Am 0)), (1, .int x1)]) hx hb dX12_lossOf_57 hl (k := 3) rfl (by rw [e_x3_3]; rfl) (by decide) rfl (fun ls hl => ?_)
  refine lv_goto (tgt := 4) hx hb dX12_lossOf_60 (by decide) ?_
  exact h4 _ _ _ _ hf _ _ _ Y (lv_sub hl [2, 3, 1, 0] rfl)
def M_lossOf_4 (rc4 : Int32 → Int32 → Int32 → (Nat → Int32) → Option (Int32)) (x1 : Int32) (x2 : Int32) (x3 : Int32) (w : Nat → Int32) : Option (Int32) := if (w 0) ≤ x3 then (some x2) else (bd1 (M_has (w 5) x3) (fun (r_2 : Int32) => if r_2 = 0 then (if x1 = (-1 : Int32) then (M_lossOf_46 rc4 x1 x3 x2 w) else (ck (inb ((14 : Int32) + x3) 320) (if (w ((14 : Int32) + x3).toNatClampNeg) = x1 then (M_lossOf_46 rc4 x1 x3 x2 w) else (bnd (x2 + (0 : Int32)) (fun (x2_9 : Int32) => bnd (x3 + (1 : Int32)) (fun (x3_10 : Int32) => rc4 x1 x2_9 x3_10 w)))))) else (bnd (x2 + (0 : Int32)) (fun (x2_4 : Int32) => bnd (x3 + (1 : Int32)) (fun (x3_5 : Int32) => rc4 x1 x2_4 x3_5 w)))))
set_option maxHeartbeats 4000000 in
set_option maxRecDepth 100000 in
theorem bM_lossOf_4 {Am : Nat → Nat} {w : Nat → Int32} {kp : Nat → Int32} {tx : Nat → Int32} {td : Int32} {rf : Nat → Int32} {fa : Int64} {fb : Int64} {ap : Int32} {sp : Int32} {iw : Int32} {ig : Int32} {nu : Nat → Int32} {lst : Int32} {lwo : Int32} {hh : Int64} {r0 : Int32} {x1 : Int32} {x2 : Int32} {x3 : Int32} {rc4 : Int32 → Int32 → Int32 → (Nat → Int32) → Option (Int32)} (X : Cx Γ p s m args meth c RX12 cX12_lossOf 4 (some .int) w0) (h4 : ∀ (x1 : Int32) (x2 : Int32) (x3 : Int32) (w : Nat → Int32), rc4 x1 x2 x3 w = some r0 → ∀ (H : Heap) (locs : List Loc) (ls : Array Slot), Wd Γ w0 s (WM Γ Am w kp tx td rf fa fb ap sp iw ig nu lst lwo hh) H locs → lv_has ls 4 [(0, .ref (Am 0)), (1, .int x1), (2, .int x2), (3, .int x3)] → W p l e rmM_lossOf s m args below meth c H locs 0 0 (EI Γ below args s w0 (WM Γ Am w kp tx td rf fa fb ap sp iw ig nu lst lwo hh) r0) (F0 m 4 ls [])) (hf : M_lossOf_4 rc4 x1 x2 x3 w = some r0) (Y : Wd Γ w0 s (WM Γ Am w kp tx td rf fa fb ap sp iw ig nu lst lwo hh) H locs) (hl : lv_has ls 4 [(0, .ref (Am 0)), (1, .int x1), (2, .int x2), (3, .int x3)]) : W p l e rmM_lossOf s m args below meth c H locs 0 0 (EI Γ below args s w0 (WM Γ Am w kp tx td rf fa fb ap sp iw ig nu lst lwo hh) r0) (F0 m 4 ls []) := by
  have hx := X.1
  have hb := X.2.1
  refine lv_iload_n hx hb dX12_lossOf_4 rfl (lv_at hl 3 rfl) ?_
  refine lv_aload_n hx hb dX12_lossOf_5 rfl (lv_at hl 0 rfl) ?_
  refine gfX12_7 X Y (v := .ref (Am 1)) 0 rfl rfl dX12_lossOf_6 ?_
  refine lv_iconst (v := (0 : Int32)) hx hb dX12_lossOf_9 (by decide) ?_
  refine x_iald X Y 1 rfl (j := 0) rfl rfl dX12_lossOf_10 ?_
  refine lv_icmp_ge (tgt := 63) hx hb dX12_lossOf_11 (by decide) (fun c_1 => ?_) (fun c_1 => ?_)
  · have hf := ite_t hf c_1
    refine lv_iload_n hx hb dX12_lossOf_63 rfl (lv_at hl 2 rfl) ?_
    have e90 := Option.some.inj hf
    subst e90
    exact x_iret X Y dX12_lossOf_64
  · have hf := ite_f hf c_1
    refine lv_iload_n hx hb dX12_lossOf_14 rfl (lv_at hl 2 rfl) ?_
    refine lv_aload_n hx hb dX12_lossOf_15 rfl (lv_at hl 0 rfl) ?_
    refine gfX12_7 X Y (v := .ref (Am 1)) 0 rfl rfl dX12_lossOf_16 ?_
    refine lv_iconst (v := (5 : Int32)) hx hb dX12_lossOf_19 (by decide) ?_
    refine x_iald X Y 1 rfl (j := 5) rfl rfl dX12_lossOf_20 ?_
    refine lv_iload_n hx hb dX12_lossOf_21 rfl (lv_at hl 3 rfl) ?_
    obtain ⟨r_2, ho_11, hf⟩ := bd1_some hf
    refine t_i Y (bk0 Y) (r_S (As := [.int (w 5), .int x3]) (rest := [.int x2]) X (c_pre0 X Y) (cM_has ho_11) (cwX12_70 X (by decide)) rfl hl.1 (Nat.le_of_ble_eq_true rfl) rfl dX12_lossOf_22 ⟨Nat.zero_le _, Nat.zero_le _⟩) (fun H locs Y => ?_)
    refine lv_if_ne (tgt := 54) hx hb dX12_lossOf_25 (by decide) (fun c_3 => ?_) (fun c_3 => ?_)
    · have hf := ite_f hf c_3
      refine lv_iconst (v := (0 : Int32)) hx hb dX12_lossOf_54 (by decide) ?_
      refine lv_iadd hx hb dX12_lossOf_55 ?_
      refine lv_topi (fun x2_4 e_x2_4 => ?_)
      have hf := bnd_eq hf e_x2_4
      refine lv_istore_n (lv' := [(2, .int x2_4), (0, .ref (Am 0)), (1, .int x1), (3, .int x3)]) hx hb dX12_lossOf_56 rfl hl (by decide) rfl (fun ls hl => ?_)
      obtain ⟨x3_5, e_x3_5⟩ : ∃ z : Int32, z = (x3 + (1 : Int32)) := ⟨_, rfl⟩
      have hf := bnd_eq hf e_x3_5
      refine lv_iinc (v := x3_5) (lv' := [(3, .int x3_5), (2, .int x2_4), (0, .ref (Am 0)), (1, .int x1)]) hx hb dX12_lossOf_57 hl (k := 3) rfl (by rw [e_x3_5]; rfl) (by decide) rfl (fun ls hl => ?_)
      refine lv_goto (tgt := 4) hx hb dX12_lossOf_60 (by decide) ?_
      exact h4 _ _ _ _ hf _ _ _ Y (lv_sub hl [2, 3, 1, 0] rfl)
    · have hf := ite_t hf c_3
      refine lv_iload_n hx hb dX12_lossOf_28 rfl (lv_at hl 1 rfl) ?_
      refine lv_iconst (v := (-1 : Int32)) hx hb dX12_lossOf_29 (by decide) ?_
      refine lv_icmp_eq (tgt := 46) hx hb dX12_lossOf_30 (by decide) (fun c_6 => ?_) (fun c_6 => ?_)
      · have hf := ite_t hf c_6
        exact bM_lossOf_46 X h4 hf Y (lv_sub hl [0, 1, 3] rfl)
      · have hf := ite_f hf c_6
        refine lv_aload_n hx hb dX12_lossOf_33 rfl (lv_at hl 0 rfl) ?_
        refine gfX12_7 X Y (v := .ref (Am 1)) 0 rfl rfl dX12_lossOf_34 ?_
        refine lv_bipush (v := (14 : Int32)) hx hb dX12_lossOf_37 (by decide) ?_
        refine lv_iload_n hx hb dX12_lossOf_39 rfl (lv_at hl 3 rfl) ?_
        refine lv_iadd hx hb dX12_lossOf_40 ?_
        obtain ⟨hi_7, hf⟩ := ck_some hf
        refine x_iald X Y 1 rfl rfl hi_7 dX12_lossOf_41 ?_
        refine lv_iload_n hx hb dX12_lossOf_42 rfl (lv_at hl 1 rfl) ?_
        refine lv_icmp_ne (tgt := 54) hx hb dX12_lossOf_43 (by decide) (fun c_8 => ?_) (fun c_8 => ?_)
        · have hf := ite_f hf c_8
          refine lv_iconst (v := (0 : Int32)) hx hb dX12_lossOf_54 (by decide) ?_
          refine lv_iadd hx hb dX12_lossOf_55 ?_
          refine lv_topi (fun x2_9 e_x2_9 => ?_)
          have hf := bnd_eq hf e_x2_9
          refine lv_istore_n (lv' := [(2, .int x2_9), (0, .ref (Am 0)), (1, .int x1), (3, .int x3)]) hx hb dX12_lossOf_56 rfl hl (by decide) rfl (fun ls hl => ?_)
          obtain ⟨x3_10, e_x3_10⟩ : ∃ z : Int32, z = (x3 + (1 : Int32)) := ⟨_, rfl⟩
          have hf := bnd_eq hf e_x3_10
          refine lv_iinc (v := x3_10) (lv' := [(3, .int x3_10), (2, .int x2_9), (0, .ref (Am 0)), (1, .int x1)]) hx hb dX12_lossOf_57 hl (k := 3) rfl (by rw [e_x3_10]; rfl) (by decide) rfl (fun ls hl => ?_)
          refine lv_goto (tgt := 4) hx hb dX12_lossOf_60 (by decide) ?_
          exact h4 _ _ _ _ hf _ _ _ Y (lv_sub hl [2, 3, 1, 0] rfl)
        · have hf := ite_t hf c_8
          exact bM_lossOf_46 X h4 hf Y (lv_sub hl [0, 1, 3] rfl)
def M_lossOf_L4 : Nat → Int32 → Int32 → Int32 → (Nat → Int32) → Option (Int32)
  | 0, _, _, _, _ => none
  | n + 1, x1, x2, x3, w => M_lossOf_4 (M_lossOf_L4 n) x1 x2 x3 w
theorem lM_lossOf_4 {Am : Nat → Nat} {kp : Nat → Int32} {tx : Nat → Int32} {td : Int32} {rf : Nat → Int32} {fa : Int64} {fb : Int64} {ap : Int32} {sp : Int32} {iw : Int32} {ig : Int32} {nu : Nat → Int32} {lst : Int32} {lwo : Int32} {hh : Int64} {r0 : Int32} (X : Cx Γ p s m args meth c RX12 cX12_lossOf 4 (some .int) w0) : ∀ (n : Nat) (x1 : Int32) (x2 : Int32) (x3 : Int32) (w : Nat → Int32), M_lossOf_L4 n x1 x2 x3 w = some r0 → ∀ (H : Heap) (locs : List Loc) (ls : Array Slot), Wd Γ w0 s (WM Γ Am w kp tx td rf fa fb ap sp iw ig nu lst lwo hh) H locs → lv_has ls 4 [(0, .ref (Am 0)), (1, .int x1), (2, .int x2), (3, .int x3)] → W p l e rmM_lossOf s m args below meth c H locs 0 0 (EI Γ below args s w0 (WM Γ Am w kp tx td rf fa fb ap sp iw ig nu lst lwo hh) r0) (F0 m 4 ls []) := by
  intro n
  induction n with
  | zero => intro x1 x2 x3 w hf; cases hf
  | succ n ih => intro x1 x2 x3 w hf H locs ls Y hl; exact bM_lossOf_4 X ih hf Y hl
def M_lossOf (x1 : Int32) (w : Nat → Int32) : Option (Int32) := M_lossOf_L4 FU x1 (0 : Int32) (0 : Int32) w
set_option maxHeartbeats 4000000 in
set_option maxRecDepth 100000 in
theorem bM_lossOf_e {Am : Nat → Nat} {w : Nat → Int32} {kp : Nat → Int32} {tx : Nat → Int32} {td : Int32} {rf : Nat → Int32} {fa : Int64} {fb : Int64} {ap : Int32} {sp : Int32} {iw : Int32} {ig : Int32} {nu : Nat → Int32} {lst : Int32} {lwo : Int32} {hh : Int64} {r0 : Int32} {x1 : Int32} (X : Cx Γ p s m args meth c RX12 cX12_lossOf 4 (some .int) w0) (hf : M_lossOf x1 w = some r0) (Y : Wd Γ w0 s (WM Γ Am w kp tx td rf fa fb ap sp iw ig nu lst lwo hh) H locs) (hl : lv_has ls 4 [(0, .ref (Am 0)), (1, .int x1)]) : W p l e rmM_lossOf s m args below meth c H locs 0 0 (EI Γ below args s w0 (WM Γ Am w kp tx td rf fa fb ap sp iw ig nu lst lwo hh) r0) (F0 m 0 ls []) := by
  have hx := X.1
  have hb := X.2.1
  refine lv_iconst (v := (0 : Int32)) hx hb dX12_lossOf_0 (by decide) ?_
  refine lv_istore_n (lv' := [(2, .int (0 : Int32)), (0, .ref (Am 0)), (1, .int x1)]) hx hb dX12_lossOf_1 rfl hl (by decide) rfl (fun ls hl => ?_)
  refine lv_iconst (v := (0 : Int32)) hx hb dX12_lossOf_2 (by decide) ?_
  refine lv_istore_n (lv' := [(3, .int (0 : Int32)), (2, .int (0 : Int32)), (0, .ref (Am 0)), (1, .int x1)]) hx hb dX12_lossOf_3 rfl hl (by decide) rfl (fun ls hl => ?_)
  exact lM_lossOf_4 X _ _ _ _ _ hf _ _ _ Y (lv_sub hl [2, 3, 1, 0] rfl)
theorem cM_lossOf {l : Launch} {Γ : Gm} {Am : Nat → Nat} {w : Nat → Int32} {kp : Nat → Int32} {tx : Nat → Int32} {td : Int32} {rf : Nat → Int32} {fa : Int64} {fb : Int64} {ap : Int32} {sp : Int32} {iw : Int32} {ig : Int32} {nu : Nat → Int32} {lst : Int32} {lwo : Int32} {hh : Int64} {r0 : Int32} {x1 : Int32} (h : M_lossOf x1 w = some r0) : CI l Γ yX12_lossOf (Cond.code yX12_lossOf cX12_lossOf 4 (some .int) :: GW) rmM_lossOf [.ref (Am 0), .int x1] (WM Γ Am w kp tx td rf fa fb ap sp iw ig nu lst lwo hh) (WM Γ Am w kp tx td rf fa fb ap sp iw ig nu lst lwo hh) r0 := ofBody (Qc := QcI Γ _ _ r0) (by decide) (Nat.le_of_ble_eq_true rfl) (fun p e s m below meth c ls _ X Y hl => bM_lossOf_e X h Y hl)
theorem dmX12_bearsOfS : yX12_bearsOf.cls ≠ "java/lang/invoke/MethodHandle" ∧ yX12_bearsOf.cls ≠ "java/lang/invoke/VarHandle" ∧ (parseMethodDescriptor yX12_bearsOf.desc).map (fun d => d.parameters.length) = some 2 := by decide +kernel
theorem cwX12_146 (X : Cx Γ p s m args meth c RX12 cc nL ret w0) (hR : rmM_bearsOf.frames + 1 ≤ R.frames ∧ 8 + (2 + 11) + rmM_bearsOf.locals ≤ R.locals) : CallB R s args RX12 146 yX12_bearsOf cX12_bearsOf 2 (some .int) (Cond.code yX12_bearsOf cX12_bearsOf 2 (some .int) :: GW) rmM_bearsOf 0 0 2 ∧ (Cond.static yX12_bearsOf).before args s = true := cw_S X kw102 kw103 kw4 kw104 dmX12_bearsOfS rfl rfl hR
def rmM_bears : Room := { frames := 1, cells := 0, slots := 0, locals := 21 }
def M_bears_52 (rc23 : Int32 → Int32 → Int32 → (Nat → Int32) → Option (Int32)) (x1 : Int32) (x3 : Int32) (y0 : Int32) (w : Nat → Int32) : Option (Int32) := ck (inb ((6 : Int32) + x3) 320) (ck (inb ((46 : Int32) + x3) 320) (bd1 (M_bearsOf (w ((6 : Int32) + x3).toNatClampNeg) (w ((46 : Int32) + x3).toNatClampNeg)) (fun (r_3 : Int32) => bnd (y0 + r_3) (fun (x2_4 : Int32) => bnd (x3 + (1 : Int32)) (fun (x3_5 : Int32) => rc23 x1 x2_4 x3_5 w)))))
set_option maxHeartbeats 4000000 in
set_option maxRecDepth 100000 in
theorem bM_bears_52 {Am : Nat → Nat} {w : Nat → Int32} {kp : Nat → Int32} {tx : Nat → Int32} {td : Int32} {rf : Nat → Int32} {fa : Int64} {fb : Int64} {ap : Int32} {sp : Int32} {iw : Int32} {ig : Int32} {nu : Nat → Int32} {lst : Int32} {lwo : Int32} {hh : Int64} {r0 : Int32} {x1 : Int32} {x3 : Int32} {y0 : Int32} {rc23 : Int32 → Int32 → Int32 → (Nat → Int32) → Option (Int32)} (X : Cx Γ p s m args meth c RX12 cX12_bears 4 (some .int) w0) (h23 : ∀ (x1 : Int32) (x2 : Int32) (x3 : Int32) (w : Nat → Int32), rc23 x1 x2 x3 w = some r0 → ∀ (H : Heap) (locs : List Loc) (ls : Array Slot), Wd Γ w0 s (WM Γ Am w kp tx td rf fa fb ap sp iw ig nu lst lwo hh) H locs → lv_has ls 4 [(0, .ref (Am 0)), (1, .int x1), (2, .int x2), (3, .int x3)] → W p l e rmM_bears s m args below meth c H locs 0 0 (EI Γ below args s w0 (WM Γ Am w kp tx td rf fa fb ap sp iw ig nu lst lwo hh) r0) (F0 m 23 ls [])) (hf : M_bears_52 rc23 x1 x3 y0 w = some r0) (Y : Wd Γ w0 s (WM Γ Am w kp tx td rf fa fb ap sp iw ig nu lst lwo hh) H locs) (hl : lv_has ls 4 [(0, .ref (Am 0)), (1, .int x1), (3, .int x3)]) : W p l e rmM_bears s m args below meth c H locs 0 0 (EI Γ below args s w0 (WM Γ Am w kp tx td rf fa fb ap sp iw ig nu lst lwo hh) r0) (F0 m 52 ls [.int y0]) := by
  have hx := X.1
  have hb := X.2.1
  refine lv_aload_n hx hb dX12_bears_52 rfl (lv_at hl 0 rfl) ?_
  refine gfX12_7 X Y (v := .ref (Am 1)) 0 rfl rfl dX12_bears_53 ?_
  refine lv_bipush (v := (6 : Int32)) hx hb dX12_bears_56 (by decide) ?_
  refine lv_iload_n hx hb dX12_bears_58 rfl (lv_at hl 2 rfl) ?_
  refine lv_iadd hx hb dX12_bears_59 ?_
  obtain ⟨hi_1, hf⟩ := ck_some hf
  refine x_iald X Y 1 rfl rfl hi_1 dX12_bears_60 ?_
  refine lv_aload_n hx hb dX12_bears_61 rfl (lv_at hl 0 rfl) ?_
  refine gfX12_7 X Y (v := .ref (Am 1)) 0 rfl rfl dX12_bears_62 ?_
  refine lv_bipush (v := (46 : Int32)) hx hb dX12_bears_65 (by decide) ?_
  refine lv_iload_n hx hb dX12_bears_67 rfl (lv_at hl 2 rfl) ?_
  refine lv_iadd hx hb dX12_bears_68 ?_
  obtain ⟨hi_2, hf⟩ := ck_some hf
  refine x_iald X Y 1 rfl rfl hi_2 dX12_bears_69 ?_
  obtain ⟨r_3, ho_6, hf⟩ := bd1_some hf
  refine t_i Y (bk0 Y) (r_S (As := [.int (w ((6 : Int32) + x3).toNatClampNeg), .int (w ((46 : Int32) + x3).toNatClampNeg)]) (rest := [.int y0]) X (c_pre0 X Y) (cM_bearsOf ho_6) (cwX12_146 X (by decide)) rfl hl.1 (Nat.le_of_ble_eq_true rfl) rfl dX12_bears_70 ⟨Nat.zero_le _, Nat.zero_le _⟩) (fun H locs Y => ?_)
  refine lv_goto (tgt := 77) hx hb dX12_bears_73 (by decide) ?_
  refine lv_iadd hx hb dX12_bears_77 ?_
  refine lv_topi (fun x2_4 e_x2_4 => ?_)
  have hf := bnd_eq hf e_x2_4
  refine lv_istore_n (lv' := [(2, .int x2_4), (0, .ref (Am 0)), (1, .int x1), (3, .int x3)]) hx hb dX12_bears_78 rfl hl (by decide) rfl (fun ls hl => ?_)
  obtain ⟨x3_5, e_x3_5⟩ : ∃ z : Int32, z = (x3 + (1 : Int32)) := ⟨_, rfl⟩
  have hf := bnd_eq hf e_x3_5
  refine lv_iinc (v := x3_5) (lv' := [(3, .int x3_5), (2, .int x2_4), (0, .ref (Am 0)), (1, .int x1)]) hx hb dX12_bears_79 hl (k := 3) rfl (by rw [e_x3_5]; rfl) (by decide) rfl (fun ls hl => ?_)
  refine lv_goto (tgt := 23) hx hb dX12_bears_82 (by decide) ?_
  exact h23 _ _ _ _ hf _ _ _ Y (lv_sub hl [2, 3, 1, 0] rfl)
def M_bears_23 (rc23 : Int32 → Int32 → Int32 → (Nat → Int32) → Option (Int32)) (x1 : Int32) (x2 : Int32) (x3 : Int32) (w : Nat → Int32) : Option (Int32) := if (w 0) ≤ x3 then (some x2) else (if x1 = (-1 : Int32) then (M_bears_52 rc23 x1 x3 x2 w) else (ck (inb ((14 : Int32) + x3) 320) (if (w ((14 : Int32) + x3).toNatClampNeg) = x1 then (M_bears_52 rc23 x1 x3 x2 w) else (bnd (x2 + (0 : Int32)) (fun (x2_5 : Int32) => bnd (x3 + (1 : Int32)) (fun (x3_6 : Int32) => rc23 x1 x2_5 x3_6 w))))))
set_option maxHeartbeats 4000000 in
set_option maxRecDepth 100000 in
theorem bM_bears_23 {Am : Nat → Nat} {w : Nat → Int32} {kp : Nat → Int32} {tx : Nat → Int32} {td : Int32} {rf : Nat → Int32} {fa : Int64} {fb : Int64} {ap : Int32} {sp : Int32} {iw : Int32} {ig : Int32} {nu : Nat → Int32} {lst : Int32} {lwo : Int32} {hh : Int64} {r0 : Int32} {x1 : Int32} {x2 : Int32} {x3 : Int32} {rc23 : Int32 → Int32 → Int32 → (Nat → Int32) → Option (Int32)} (X : Cx Γ p s m args meth c RX12 cX12_bears 4 (some .int) w0) (h23 : ∀ (x1 : Int32) (x2 : Int32) (x3 : Int32) (w : Nat → Int32), rc23 x1 x2 x3 w = some r0 → ∀ (H : Heap) (locs : List Loc) (ls : Array Slot), Wd Γ w0 s (WM Γ Am w kp tx td rf fa fb ap sp iw ig nu lst lwo hh) H locs → lv_has ls 4 [(0, .ref (Am 0)), (1, .int x1), (2, .int x2), (3, .int x3)] → W p l e rmM_bears s m args below meth c H locs 0 0 (EI Γ below args s w0 (WM Γ Am w kp tx td rf fa fb ap sp iw ig nu lst lwo hh) r0) (F0 m 23 ls [])) (hf : M_bears_23 rc23 x1 x2 x3 w = some r0) (Y : Wd Γ w0 s (WM Γ Am w kp tx td rf fa fb ap sp iw ig nu lst lwo hh) H locs) (hl : lv_has ls 4 [(0, .ref (Am 0)), (1, .int x1), (2, .int x2), (3, .int x3)]) : W p l e rmM_bears s m args below meth c H locs 0 0 (EI Γ below args s w0 (WM Γ Am w kp tx td rf fa fb ap sp iw ig nu lst lwo hh) r0) (F0 m 23 ls []) := by
  have hx := X.1
  have hb := X.2.1
  refine lv_iload_n hx hb dX12_bears_23 rfl (lv_at hl 3 rfl) ?_
  refine lv_aload_n hx hb dX12_bears_24 rfl (lv_at hl 0 rfl) ?_
  refine gfX12_7 X Y (v := .ref (Am 1)) 0 rfl rfl dX12_bears_25 ?_
  refine lv_iconst (v := (0 : Int32)) hx hb dX12_bears_28 (by decide) ?_
  refine x_iald X Y 1 rfl (j := 0) rfl rfl dX12_bears_29 ?_
  refine lv_icmp_ge (tgt := 85) hx hb dX12_bears_30 (by decide) (fun c_1 => ?_) (fun c_1 => ?_)
  · have hf := ite_t hf c_1
    refine lv_iload_n hx hb dX12_bears_85 rfl (lv_at hl 2 rfl) ?_
    have e90 := Option.some.inj hf
    subst e90
    exact x_iret X Y dX12_bears_86
  · have hf := ite_f hf c_1
    refine lv_iload_n hx hb dX12_bears_33 rfl (lv_at hl 2 rfl) ?_
    refine lv_iload_n hx hb dX12_bears_34 rfl (lv_at hl 1 rfl) ?_
    refine lv_iconst (v := (-1 : Int32)) hx hb dX12_bears_35 (by decide) ?_
    refine lv_icmp_eq (tgt := 52) hx hb dX12_bears_36 (by decide) (fun c_2 => ?_) (fun c_2 => ?_)
    · have hf := ite_t hf c_2
      exact bM_bears_52 X h23 hf Y (lv_sub hl [0, 1, 3] rfl)
    · have hf := ite_f hf c_2
      refine lv_aload_n hx hb dX12_bears_39 rfl (lv_at hl 0 rfl) ?_
      refine gfX12_7 X Y (v := .ref (Am 1)) 0 rfl rfl dX12_bears_40 ?_
      refine lv_bipush (v := (14 : Int32)) hx hb dX12_bears_43 (by decide) ?_
      refine lv_iload_n hx hb dX12_bears_45 rfl (lv_at hl 3 rfl) ?_
      refine lv_iadd hx hb dX12_bears_46 ?_
      obtain ⟨hi_3, hf⟩ := ck_some hf
      refine x_iald X Y 1 rfl rfl hi_3 dX12_bears_47 ?_
      refine lv_iload_n hx hb dX12_bears_48 rfl (lv_at hl 1 rfl) ?_
      refine lv_icmp_ne (tgt := 76) hx hb dX12_bears_49 (by decide) (fun c_4 => ?_) (fun c_4 => ?_)
      · have hf := ite_f hf c_4
        refine lv_iconst (v := (0 : Int32)) hx hb dX12_bears_76 (by decide) ?_
        refine lv_iadd hx hb dX12_bears_77 ?_
        refine lv_topi (fun x2_5 e_x2_5 => ?_)
        have hf := bnd_eq hf e_x2_5
        refine lv_istore_n (lv' := [(2, .int x2_5), (0, .ref (Am 0)), (1, .int x1), (3, .int x3)]) hx hb dX12_bears_78 rfl hl (by decide) rfl (fun ls hl => ?_)
        obtain ⟨x3_6, e_x3_6⟩ : ∃ z : Int32, z = (x3 + (1 : Int32)) := ⟨_, rfl⟩
        have hf := bnd_eq hf e_x3_6
        refine lv_iinc (v := x3_6) (lv' := [(3, .int x3_6), (2, .int x2_5), (0, .ref (Am 0)), (1, .int x1)]) hx hb dX12_bears_79 hl (k := 3) rfl (by rw [e_x3_6]; rfl) (by decide) rfl (fun ls hl => ?_)
        refine lv_goto (tgt := 23) hx hb dX12_bears_82 (by decide) ?_
        exact h23 _ _ _ _ hf _ _ _ Y (lv_sub hl [2, 3, 1, 0] rfl)
      · have hf := ite_t hf c_4
        exact bM_bears_52 X h23 hf Y (lv_sub hl [0, 1, 3] rfl)
def M_bears_L23 : Nat → Int32 → Int32 → Int32 → (Nat → Int32) → Option (Int32)
  | 0, _, _, _, _ => none
  | n + 1, x1, x2, x3, w => M_bears_23 (M_bears_L23 n) x1 x2 x3 w
theorem lM_bears_23 {Am : Nat → Nat} {kp : Nat → Int32} {tx : Nat → Int32} {td : Int32} {rf : Nat → Int32} {fa : Int64} {fb : Int64} {ap : Int32} {sp : Int32} {iw : Int32} {ig : Int32} {nu : Nat → Int32} {lst : Int32} {lwo : Int32} {hh : Int64} {r0 : Int32} (X : Cx Γ p s m args meth c RX12 cX12_bears 4 (some .int) w0) : ∀ (n : Nat) (x1 : Int32) (x2 : Int32) (x3 : Int32) (w : Nat → Int32), M_bears_L23 n x1 x2 x3 w = some r0 → ∀ (H : Heap) (locs : List Loc) (ls : Array Slot), Wd Γ w0 s (WM Γ Am w kp tx td rf fa fb ap sp iw ig nu lst lwo hh) H locs → lv_has ls 4 [(0, .ref (Am 0)), (1, .int x1), (2, .int x2), (3, .int x3)] → W p l e rmM_bears s m args below meth c H locs 0 0 (EI Γ below args s w0 (WM Γ Am w kp tx td rf fa fb ap sp iw ig nu lst lwo hh) r0) (F0 m 23 ls []) := by
  intro n
  induction n with
  | zero => intro x1 x2 x3 w hf; cases hf
  | succ n ih => intro x1 x2 x3 w hf H locs ls Y hl; exact bM_bears_23 X ih hf Y hl
def M_bears_10 (x1 : Int32) (w : Nat → Int32) : Option (Int32) := bnd (w 1) (fun (x2_1 : Int32) => M_bears_L23 FU x1 x2_1 (0 : Int32) w)
set_option maxHeartbeats 4000000 in
set_option maxRecDepth 100000 in
theorem bM_bears_10 {Am : Nat → Nat} {w : Nat → Int32} {kp : Nat → Int32} {tx : Nat → Int32} {td : Int32} {rf : Nat → Int32} {fa : Int64} {fb : Int64} {ap : Int32} {sp : Int32} {iw : Int32} {ig : Int32} {nu : Nat → Int32} {lst : Int32} {lwo : Int32} {hh : Int64} {r0 : Int32} {x1 : Int32} (X : Cx Γ p s m args meth c RX12 cX12_bears 4 (some .int) w0) (hf : M_bears_10 x1 w = some r0) (Y : Wd Γ w0 s (WM Γ Am w kp tx td rf fa fb ap sp iw ig nu lst lwo hh) H locs) (hl : lv_has ls 4 [(0, .ref (Am 0)), (1, .int x1)]) : W p l e rmM_bears s m args below meth c H locs 0 0 (EI Γ below args s w0 (WM Γ Am w kp tx td rf fa fb ap sp iw ig nu lst lwo hh) r0) (F0 m 10 ls []) := by
  have hx := X.1
  have hb := X.2.1
  refine lv_aload_n hx hb dX12_bears_10 rfl (lv_at hl 0 rfl) ?_
  refine gfX12_7 X Y (v := .ref (Am 1)) 0 rfl rfl dX12_bears_11 ?_
  refine lv_iconst (v := (1 : Int32)) hx hb dX12_bears_14 (by decide) ?_
  refine x_iald X Y 1 rfl (j := 1) rfl rfl dX12_bears_15 ?_
  refine lv_goto (tgt := 20) hx hb dX12_bears_16 (by decide) ?_
  refine lv_topi (fun x2_1 e_x2_1 => ?_)
  have hf := bnd_eq hf e_x2_1
  refine lv_istore_n (lv' := [(2, .int x2_1), (0, .ref (Am 0)), (1, .int x1)]) hx hb dX12_bears_20 rfl hl (by decide) rfl (fun ls hl => ?_)
  refine lv_iconst (v := (0 : Int32)) hx hb dX12_bears_21 (by decide) ?_
  refine lv_istore_n (lv' := [(3, .int (0 : Int32)), (2, .int x2_1), (0, .ref (Am 0)), (1, .int x1)]) hx hb dX12_bears_22 rfl hl (by decide) rfl (fun ls hl => ?_)
  exact lM_bears_23 X _ _ _ _ _ hf _ _ _ Y (lv_sub hl [2, 3, 1, 0] rfl)
def M_bears (x1 : Int32) (w : Nat → Int32) : Option (Int32) := if x1 = (-1 : Int32) then (M_bears_10 x1 w) else (if x1 = (4 : Int32) then (M_bears_10 x1 w) else (M_bears_L23 FU x1 (0 : Int32) (0 : Int32) w))
set_option maxHeartbeats 4000000 in
set_option maxRecDepth 100000 in
theorem bM_bears_e {Am : Nat → Nat} {w : Nat → Int32} {kp : Nat → Int32} {tx : Nat → Int32} {td : Int32} {rf : Nat → Int32} {fa : Int64} {fb : Int64} {ap : Int32} {sp : Int32} {iw : Int32} {ig : Int32} {nu : Nat → Int32} {lst : Int32} {lwo : Int32} {hh : Int64} {r0 : Int32} {x1 : Int32} (X : Cx Γ p s m args meth c RX12 cX12_bears 4 (some .int) w0) (hf : M_bears x1 w = some r0) (Y : Wd Γ w0 s (WM Γ Am w kp tx td rf fa fb ap sp iw ig nu lst lwo hh) H locs) (hl : lv_has ls 4 [(0, .ref (Am 0)), (1, .int x1)]) : W p l e rmM_bears s m args below meth c H locs 0 0 (EI Γ below args s w0 (WM Γ Am w kp tx td rf fa fb ap sp iw ig nu lst lwo hh) r0) (F0 m 0 ls []) := by
  have hx := X.1
  have hb := X.2.1
  refine lv_iload_n hx hb dX12_bears_0 rfl (lv_at hl 1 rfl) ?_
  refine lv_iconst (v := (-1 : Int32)) hx hb dX12_bears_1 (by decide) ?_
  refine lv_icmp_eq (tgt := 10) hx hb dX12_bears_2 (by decide) (fun c_1 => ?_) (fun c_1 => ?_)
  · have hf := ite_t hf c_1
    exact bM_bears_10 X hf Y (lv_sub hl [0, 1] rfl)
  · have hf := ite_f hf c_1
    refine lv_iload_n hx hb dX12_bears_5 rfl (lv_at hl 1 rfl) ?_
    refine lv_iconst (v := (4 : Int32)) hx hb dX12_bears_6 (by decide) ?_
    refine lv_icmp_ne (tgt := 19) hx hb dX12_bears_7 (by decide) (fun c_2 => ?_) (fun c_2 => ?_)
    · have hf := ite_f hf c_2
      refine lv_iconst (v := (0 : Int32)) hx hb dX12_bears_19 (by decide) ?_
      refine lv_istore_n (lv' := [(2, .int (0 : Int32)), (0, .ref (Am 0)), (1, .int x1)]) hx hb dX12_bears_20 rfl hl (by decide) rfl (fun ls hl => ?_)
      refine lv_iconst (v := (0 : Int32)) hx hb dX12_bears_21 (by decide) ?_
      refine lv_istore_n (lv' := [(3, .int (0 : Int32)), (2, .int (0 : Int32)), (0, .ref (Am 0)), (1, .int x1)]) hx hb dX12_bears_22 rfl hl (by decide) rfl (fun ls hl => ?_)
      exact lM_bears_23 X _ _ _ _ _ hf _ _ _ Y (lv_sub hl [2, 3, 1, 0] rfl)
    · have hf := ite_t hf c_2
      exact bM_bears_10 X hf Y (lv_sub hl [0, 1] rfl)
theorem cM_bears {l : Launch} {Γ : Gm} {Am : Nat → Nat} {w : Nat → Int32} {kp : Nat → Int32} {tx : Nat → Int32} {td : Int32} {rf : Nat → Int32} {fa : Int64} {fb : Int64} {ap : Int32} {sp : Int32} {iw : Int32} {ig : Int32} {nu : Nat → Int32} {lst : Int32} {lwo : Int32} {hh : Int64} {r0 : Int32} {x1 : Int32} (h : M_bears x1 w = some r0) : CI l Γ yX12_bears (Cond.code yX12_bears cX12_bears 4 (some .int) :: GW) rmM_bears [.ref (Am 0), .int x1] (WM Γ Am w kp tx td rf fa fb ap sp iw ig nu lst lwo hh) (WM Γ Am w kp tx td rf fa fb ap sp iw ig nu lst lwo hh) r0 := ofBody (Qc := QcI Γ _ _ r0) (by decide) (Nat.le_of_ble_eq_true rfl) (fun p e s m below meth c ls _ X Y hl => bM_bears_e X h Y hl)
theorem dmX12_noV : yX12_no.cls = RX12 ∧ yX12_no.cls ≠ "java/lang/invoke/MethodHandle" ∧ yX12_no.cls ≠ "java/lang/invoke/VarHandle" ∧ (parseMethodDescriptor yX12_no.desc).map (fun d => d.parameters.length) = some 0 := by decide +kernel
theorem cwX12_152 (X : Cx Γ p s m args meth c RX12 cc nL ret w0) (hR : rmM_no.frames + 1 ≤ R.frames ∧ 8 + (1 + 11) + rmM_no.locals ≤ R.locals) : CallW R s args RX12 RX12 152 yX12_no cX12_no 1 (some .int) (Cond.code yX12_no cX12_no 1 (some .int) :: GW) rmM_no 0 0 0 := cw_V X kw105 kw106 kw107 kw4 kw108 dmX12_noV rfl rfl hR
theorem dmX12_isFreeV : yX12_isFree.cls = RX12 ∧ yX12_isFree.cls ≠ "java/lang/invoke/MethodHandle" ∧ yX12_isFree.cls ≠ "java/lang/invoke/VarHandle" ∧ (parseMethodDescriptor yX12_isFree.desc).map (fun d => d.parameters.length) = some 1 := by decide +kernel
theorem cwX12_149 (X : Cx Γ p s m args meth c RX12 cc nL ret w0) (hR : rmM_isFree.frames + 1 ≤ R.frames ∧ 8 + (2 + 11) + rmM_isFree.locals ≤ R.locals) : CallW R s args RX12 RX12 149 yX12_isFree cX12_isFree 2 (some .boolean) (Cond.code yX12_isFree cX12_isFree 2 (some .boolean) :: GW) rmM_isFree 0 0 1 := cw_V X kw109 kw110 kw111 kw4 kw112 dmX12_isFreeV rfl rfl hR
def rmM_over : Room := { frames := 3, cells := 0, slots := 0, locals := 72 }
def M_over_81 (x1 : Int32) (w : Nat → Int32) (rf : Nat → Int32) : Option (Int32 × (Nat → Int32) × (Nat → Int32)) := bnd (w 5) (fun (v_1 : Int32) => ck (inb ((72 : Int32) + (w 4)) 320) (bnd (upd w ((72 : Int32) + (w 4)).toNatClampNeg v_1) (fun (w_2 : Nat → Int32) => bnd ((w_2 4) + (1 : Int32)) (fun (v_4 : Int32) => bnd (upd w_2 4 v_4) (fun (w_5 : Nat → Int32) => bnd ((w_5 5) &&& (((1 : Int32) <<< (x1 &&& 31)) ^^^ (-1 : Int32))) (fun (v_6 : Int32) => bnd (upd w_5 5 v_6) (fun (w_7 : Nat → Int32) => bd1 (M_madeGood x1 w_7) (fun (r_8 : Int32) => some (r_8, w_7, rf)))))))))
set_option maxHeartbeats 4000000 in
set_option maxRecDepth 100000 in
theorem bM_over_81 {Am : Nat → Nat} {w : Nat → Int32} {kp : Nat → Int32} {tx : Nat → Int32} {td : Int32} {rf : Nat → Int32} {fa : Int64} {fb : Int64} {ap : Int32} {sp : Int32} {iw : Int32} {ig : Int32} {nu : Nat → Int32} {lst : Int32} {lwo : Int32} {hh : Int64} {w_z : Nat → Int32} {rf_z : Nat → Int32} {r0 : Int32} {x1 : Int32} (X : Cx Γ p s m args meth c RX12 cX12_over 3 (some .int) w0) (hf : M_over_81 x1 w rf = some (r0, w_z, rf_z)) (Y : Wd Γ w0 s (WM Γ Am w kp tx td rf fa fb ap sp iw ig nu lst lwo hh) H locs) (hl : lv_has ls 3 [(0, .ref (Am 0)), (1, .int x1)]) : W p l e rmM_over s m args below meth c H locs 0 0 (EI Γ below args s w0 (WM Γ Am w_z kp tx td rf_z fa fb ap sp iw ig nu lst lwo hh) r0) (F0 m 81 ls []) := by
  have hx := X.1
  have hb := X.2.1
  refine lv_aload_n hx hb dX12_over_81 rfl (lv_at hl 0 rfl) ?_
  refine gfX12_7 X Y (v := .ref (Am 1)) 0 rfl rfl dX12_over_82 ?_
  refine lv_bipush (v := (72 : Int32)) hx hb dX12_over_85 (by decide) ?_
  refine lv_aload_n hx hb dX12_over_87 rfl (lv_at hl 0 rfl) ?_
  refine gfX12_7 X Y (v := .ref (Am 1)) 0 rfl rfl dX12_over_88 ?_
  refine lv_iconst (v := (4 : Int32)) hx hb dX12_over_91 (by decide) ?_
  refine x_iald X Y 1 rfl (j := 4) rfl rfl dX12_over_92 ?_
  refine lv_iadd hx hb dX12_over_93 ?_
  refine lv_aload_n hx hb dX12_over_94 rfl (lv_at hl 0 rfl) ?_
  refine gfX12_7 X Y (v := .ref (Am 1)) 0 rfl rfl dX12_over_95 ?_
  refine lv_iconst (v := (5 : Int32)) hx hb dX12_over_98 (by decide) ?_
  refine x_iald X Y 1 rfl (j := 5) rfl rfl dX12_over_99 ?_
  refine lv_topi (fun v_1 e_v_1 => ?_)
  have hf := bnd_eq hf e_v_1
  obtain ⟨hi_3, hf⟩ := ck_some hf
  obtain ⟨w_2, e_w_2⟩ : ∃ z : Nat → Int32, z = (upd w ((72 : Int32) + (w 4)).toNatClampNeg v_1) := ⟨_, rfl⟩
  have hf := bnd_eq hf e_w_2
  refine x_iast X Y 1 rfl rfl hi_3 (ws' := (WM Γ Am w_2 kp tx td rf fa fb ap sp iw ig nu lst lwo hh)) (by subst e_w_2; rfl) dX12_over_100 (fun H locs Y => ?_)
  refine lv_aload_n hx hb dX12_over_101 rfl (lv_at hl 0 rfl) ?_
  refine gfX12_7 X Y (v := .ref (Am 1)) 0 rfl rfl dX12_over_102 ?_
  refine lv_iconst (v := (4 : Int32)) hx hb dX12_over_105 (by decide) ?_
  refine lv_dup2_11 hx hb dX12_over_106 rfl rfl ?_
  refine x_iald X Y 1 rfl (j := 4) rfl rfl dX12_over_107 ?_
  refine lv_iconst (v := (1 : Int32)) hx hb dX12_over_108 (by decide) ?_
  refine lv_iadd hx hb dX12_over_109 ?_
  refine lv_topi (fun v_4 e_v_4 => ?_)
  have hf := bnd_eq hf e_v_4
  obtain ⟨w_5, e_w_5⟩ : ∃ z : Nat → Int32, z = (upd w_2 4 v_4) := ⟨_, rfl⟩
  have hf := bnd_eq hf e_w_5
  refine x_iast X Y 1 rfl (j := 4) rfl rfl (ws' := (WM Γ Am w_5 kp tx td rf fa fb ap sp iw ig nu lst lwo hh)) (by subst e_w_5; rfl) dX12_over_110 (fun H locs Y => ?_)
  refine lv_aload_n hx hb dX12_over_111 rfl (lv_at hl 0 rfl) ?_
  refine gfX12_7 X Y (v := .ref (Am 1)) 0 rfl rfl dX12_over_112 ?_
  refine lv_iconst (v := (5 : Int32)) hx hb dX12_over_115 (by decide) ?_
  refine lv_dup2_11 hx hb dX12_over_116 rfl rfl ?_
  refine x_iald X Y 1 rfl (j := 5) rfl rfl dX12_over_117 ?_
  refine lv_iconst (v := (1 : Int32)) hx hb dX12_over_118 (by decide) ?_
  refine lv_iload_n hx hb dX12_over_119 rfl (lv_at hl 1 rfl) ?_
  refine lv_ishl hx hb dX12_over_120 ?_
  refine lv_iconst (v := (-1 : Int32)) hx hb dX12_over_121 (by decide) ?_
  refine lv_ixor hx hb dX12_over_122 ?_
  refine lv_iand hx hb dX12_over_123 ?_
  refine lv_topi (fun v_6 e_v_6 => ?_)
  have hf := bnd_eq hf e_v_6
  obtain ⟨w_7, e_w_7⟩ : ∃ z : Nat → Int32, z = (upd w_5 5 v_6) := ⟨_, rfl⟩
  have hf := bnd_eq hf e_w_7
  refine x_iast X Y 1 rfl (j := 5) rfl rfl (ws' := (WM Γ Am w_7 kp tx td rf fa fb ap sp iw ig nu lst lwo hh)) (by subst e_w_7; rfl) dX12_over_124 (fun H locs Y => ?_)
  refine lv_aload_n hx hb dX12_over_125 rfl (lv_at hl 0 rfl) ?_
  refine lv_iload_n hx hb dX12_over_126 rfl (lv_at hl 1 rfl) ?_
  obtain ⟨r_8, ho_9, hf⟩ := bd1_some hf
  refine t_i Y (bkS Y) (r_V (As := [.int x1]) (rest := []) X (c_preS X Y) (cM_madeGood ho_9) (cwX12_143 X (by decide)) (va_recv X.K Y.1 (q := (RX12, TX12, 15)) (q0 := 0) (ci := 12) rfl rfl) rfl hl.1 (Nat.le_of_ble_eq_true rfl) rfl dX12_over_127 ⟨Nat.zero_le _, Nat.zero_le _⟩) (fun H locs Y => ?_)
  obtain ⟨e90, e91, e92⟩ := sj3 hf
  subst e90
  subst e91
  subst e92
  exact x_iret X Y dX12_over_130
def M_over_39 (rc39 : Int32 → Int32 → (Nat → Int32) → (Nat → Int32) → Option (Int32 × (Nat → Int32) × (Nat → Int32))) (x1 : Int32) (x2 : Int32) (w : Nat → Int32) (rf : Nat → Int32) : Option (Int32 × (Nat → Int32) × (Nat → Int32)) := if (7 : Int32) ≤ x2 then (bnd ((w 4) - (1 : Int32)) (fun (v_2 : Int32) => bnd (upd w 4 v_2) (fun (w_3 : Nat → Int32) => M_over_81 x1 w_3 rf))) else (ck (inb (((72 : Int32) + x2) + (1 : Int32)) 320) (bnd (w (((72 : Int32) + x2) + (1 : Int32)).toNatClampNeg) (fun (v_5 : Int32) => ck (inb ((72 : Int32) + x2) 320) (bnd (upd w ((72 : Int32) + x2).toNatClampNeg v_5) (fun (w_6 : Nat → Int32) => bnd (x2 + (1 : Int32)) (fun (x2_8 : Int32) => rc39 x1 x2_8 w_6 rf))))))
set_option maxHeartbeats 4000000 in
set_option maxRecDepth 100000 in
theorem bM_over_39 {Am : Nat → Nat} {w : Nat → Int32} {kp : Nat → Int32} {tx : Nat → Int32} {td : Int32} {rf : Nat → Int32} {fa : Int64} {fb : Int64} {ap : Int32} {sp : Int32} {iw : Int32} {ig : Int32} {nu : Nat → Int32} {lst : Int32} {lwo : Int32} {hh : Int64} {w_z : Nat → Int32} {rf_z : Nat → Int32} {r0 : Int32} {x1 : Int32} {x2 : Int32} {rc39 : Int32 → Int32 → (Nat → Int32) → (Nat → Int32) → Option (Int32 × (Nat → Int32) × (Nat → Int32))} (X : Cx Γ p s m args meth c RX12 cX12_over 3 (some .int) w0) (h39 : ∀ (x1 : Int32) (x2 : Int32) (w : Nat → Int32) (rf : Nat → Int32), rc39 x1 x2 w rf = some (r0, w_z, rf_z) → ∀ (H : Heap) (locs : List Loc) (ls : Array Slot), Wd Γ w0 s (WM Γ Am w kp tx td rf fa fb ap sp iw ig nu lst lwo hh) H locs → lv_has ls 3 [(0, .ref (Am 0)), (1, .int x1), (2, .int x2)] → W p l e rmM_over s m args below meth c H locs 0 0 (EI Γ below args s w0 (WM Γ Am w_z kp tx td rf_z fa fb ap sp iw ig nu lst lwo hh) r0) (F0 m 39 ls [])) (hf : M_over_39 rc39 x1 x2 w rf = some (r0, w_z, rf_z)) (Y : Wd Γ w0 s (WM Γ Am w kp tx td rf fa fb ap sp iw ig nu lst lwo hh) H locs) (hl : lv_has ls 3 [(0, .ref (Am 0)), (1, .int x1), (2, .int x2)]) : W p l e rmM_over s m args below meth c H locs 0 0 (EI Γ below args s w0 (WM Γ Am w_z kp tx td rf_z fa fb ap sp iw ig nu lst lwo hh) r0) (F0 m 39 ls []) := by
  have hx := X.1
  have hb := X.2.1
  refine lv_iload_n hx hb dX12_over_39 rfl (lv_at hl 2 rfl) ?_
  refine lv_bipush (v := (7 : Int32)) hx hb dX12_over_40 (by decide) ?_
  refine lv_icmp_ge (tgt := 71) hx hb dX12_over_42 (by decide) (fun c_1 => ?_) (fun c_1 => ?_)
  · have hf := ite_t hf c_1
    refine lv_aload_n hx hb dX12_over_71 rfl (lv_at hl 0 rfl) ?_
    refine gfX12_7 X Y (v := .ref (Am 1)) 0 rfl rfl dX12_over_72 ?_
    refine lv_iconst (v := (4 : Int32)) hx hb dX12_over_75 (by decide) ?_
    refine lv_dup2_11 hx hb dX12_over_76 rfl rfl ?_
    refine x_iald X Y 1 rfl (j := 4) rfl rfl dX12_over_77 ?_
    refine lv_iconst (v := (1 : Int32)) hx hb dX12_over_78 (by decide) ?_
    refine lv_isub hx hb dX12_over_79 ?_
    refine lv_topi (fun v_2 e_v_2 => ?_)
    have hf := bnd_eq hf e_v_2
    obtain ⟨w_3, e_w_3⟩ : ∃ z : Nat → Int32, z = (upd w 4 v_2) := ⟨_, rfl⟩
    have hf := bnd_eq hf e_w_3
    refine x_iast X Y 1 rfl (j := 4) rfl rfl (ws' := (WM Γ Am w_3 kp tx td rf fa fb ap sp iw ig nu lst lwo hh)) (by subst e_w_3; rfl) dX12_over_80 (fun H locs Y => ?_)
    exact bM_over_81 X hf Y (lv_sub hl [0, 1] rfl)
  · have hf := ite_f hf c_1
    refine lv_aload_n hx hb dX12_over_45 rfl (lv_at hl 0 rfl) ?_
    refine gfX12_7 X Y (v := .ref (Am 1)) 0 rfl rfl dX12_over_46 ?_
    refine lv_bipush (v := (72 : Int32)) hx hb dX12_over_49 (by decide) ?_
    refine lv_iload_n hx hb dX12_over_51 rfl (lv_at hl 2 rfl) ?_
    refine lv_iadd hx hb dX12_over_52 ?_
    refine lv_aload_n hx hb dX12_over_53 rfl (lv_at hl 0 rfl) ?_
    refine gfX12_7 X Y (v := .ref (Am 1)) 0 rfl rfl dX12_over_54 ?_
    refine lv_bipush (v := (72 : Int32)) hx hb dX12_over_57 (by decide) ?_
    refine lv_iload_n hx hb dX12_over_59 rfl (lv_at hl 2 rfl) ?_
    refine lv_iadd hx hb dX12_over_60 ?_
    refine lv_iconst (v := (1 : Int32)) hx hb dX12_over_61 (by decide) ?_
    refine lv_iadd hx hb dX12_over_62 ?_
    obtain ⟨hi_4, hf⟩ := ck_some hf
    refine x_iald X Y 1 rfl rfl hi_4 dX12_over_63 ?_
    refine lv_topi (fun v_5 e_v_5 => ?_)
    have hf := bnd_eq hf e_v_5
    obtain ⟨hi_7, hf⟩ := ck_some hf
    obtain ⟨w_6, e_w_6⟩ : ∃ z : Nat → Int32, z = (upd w ((72 : Int32) + x2).toNatClampNeg v_5) := ⟨_, rfl⟩
    have hf := bnd_eq hf e_w_6
    refine x_iast X Y 1 rfl rfl hi_7 (ws' := (WM Γ Am w_6 kp tx td rf fa fb ap sp iw ig nu lst lwo hh)) (by subst e_w_6; rfl) dX12_over_64 (fun H locs Y => ?_)
    obtain ⟨x2_8, e_x2_8⟩ : ∃ z : Int32, z = (x2 + (1 : Int32)) := ⟨_, rfl⟩
    have hf := bnd_eq hf e_x2_8
    refine lv_iinc (v := x2_8) (lv' := [(2, .int x2_8), (0, .ref (Am 0)), (1, .int x1)]) hx hb dX12_over_65 hl (k := 2) rfl (by rw [e_x2_8]; rfl) (by decide) rfl (fun ls hl => ?_)
    refine lv_goto (tgt := 39) hx hb dX12_over_68 (by decide) ?_
    exact h39 _ _ _ _ hf _ _ _ Y (lv_sub hl [1, 2, 0] rfl)
def M_over_L39 : Nat → Int32 → Int32 → (Nat → Int32) → (Nat → Int32) → Option (Int32 × (Nat → Int32) × (Nat → Int32))
  | 0, _, _, _, _ => none
  | n + 1, x1, x2, w, rf => M_over_39 (M_over_L39 n) x1 x2 w rf
theorem lM_over_39 {Am : Nat → Nat} {kp : Nat → Int32} {tx : Nat → Int32} {td : Int32} {fa : Int64} {fb : Int64} {ap : Int32} {sp : Int32} {iw : Int32} {ig : Int32} {nu : Nat → Int32} {lst : Int32} {lwo : Int32} {hh : Int64} {w_z : Nat → Int32} {rf_z : Nat → Int32} {r0 : Int32} (X : Cx Γ p s m args meth c RX12 cX12_over 3 (some .int) w0) : ∀ (n : Nat) (x1 : Int32) (x2 : Int32) (w : Nat → Int32) (rf : Nat → Int32), M_over_L39 n x1 x2 w rf = some (r0, w_z, rf_z) → ∀ (H : Heap) (locs : List Loc) (ls : Array Slot), Wd Γ w0 s (WM Γ Am w kp tx td rf fa fb ap sp iw ig nu lst lwo hh) H locs → lv_has ls 3 [(0, .ref (Am 0)), (1, .int x1), (2, .int x2)] → W p l e rmM_over s m args below meth c H locs 0 0 (EI Γ below args s w0 (WM Γ Am w_z kp tx td rf_z fa fb ap sp iw ig nu lst lwo hh) r0) (F0 m 39 ls []) := by
  intro n
  induction n with
  | zero => intro x1 x2 w rf hf; cases hf
  | succ n ih => intro x1 x2 w rf hf H locs ls Y hl; exact bM_over_39 X ih hf Y hl
def M_over (x1 : Int32) (w : Nat → Int32) (rf : Nat → Int32) : Option (Int32 × (Nat → Int32) × (Nat → Int32)) := bd1 (M_isGoods x1 w) (fun (r_1 : Int32) => if r_1 = 0 then (bd2 (M_bad rf) (fun (r_10 : Int32) (rf_11 : Nat → Int32) => some (r_10, w, rf_11))) else (bd1 (M_isFree x1 w) (fun (r_3 : Int32) => if r_3 = 0 then (bd2 (M_no rf) (fun (r_6 : Int32) (rf_7 : Nat → Int32) => some (r_6, w, rf_7))) else (if (w 4) = (8 : Int32) then (M_over_L39 FU x1 (0 : Int32) w rf) else (M_over_81 x1 w rf)))))
set_option maxHeartbeats 4000000 in
set_option maxRecDepth 100000 in
theorem bM_over_e {Am : Nat → Nat} {w : Nat → Int32} {kp : Nat → Int32} {tx : Nat → Int32} {td : Int32} {rf : Nat → Int32} {fa : Int64} {fb : Int64} {ap : Int32} {sp : Int32} {iw : Int32} {ig : Int32} {nu : Nat → Int32} {lst : Int32} {lwo : Int32} {hh : Int64} {w_z : Nat → Int32} {rf_z : Nat → Int32} {r0 : Int32} {x1 : Int32} (X : Cx Γ p s m args meth c RX12 cX12_over 3 (some .int) w0) (hf : M_over x1 w rf = some (r0, w_z, rf_z)) (Y : Wd Γ w0 s (WM Γ Am w kp tx td rf fa fb ap sp iw ig nu lst lwo hh) H locs) (hl : lv_has ls 3 [(0, .ref (Am 0)), (1, .int x1)]) : W p l e rmM_over s m args below meth c H locs 0 0 (EI Γ below args s w0 (WM Γ Am w_z kp tx td rf_z fa fb ap sp iw ig nu lst lwo hh) r0) (F0 m 0 ls []) := by
  have hx := X.1
  have hb := X.2.1
  refine lv_aload_n hx hb dX12_over_0 rfl (lv_at hl 0 rfl) ?_
  refine lv_iload_n hx hb dX12_over_1 rfl (lv_at hl 1 rfl) ?_
  obtain ⟨r_1, ho_13, hf⟩ := bd1_some hf
  refine t_i Y (bkS Y) (r_V (As := [.int x1]) (rest := []) X (c_preS X Y) (cM_isGoods ho_13) (cwX12_67 X (by decide)) (va_recv X.K Y.1 (q := (RX12, TX12, 15)) (q0 := 0) (ci := 12) rfl rfl) rfl hl.1 (Nat.le_of_ble_eq_true rfl) rfl dX12_over_2 ⟨Nat.zero_le _, Nat.zero_le _⟩) (fun H locs Y => ?_)
  refine lv_if_ne (tgt := 13) hx hb dX12_over_5 (by decide) (fun c_2 => ?_) (fun c_2 => ?_)
  · have hf := ite_f hf c_2
    refine lv_aload_n hx hb dX12_over_13 rfl (lv_at hl 0 rfl) ?_
    refine lv_iload_n hx hb dX12_over_14 rfl (lv_at hl 1 rfl) ?_
    obtain ⟨r_3, ho_9, hf⟩ := bd1_some hf
    refine t_i Y (bkS Y) (r_V (As := [.int x1]) (rest := []) X (c_preS X Y) (cM_isFree ho_9) (cwX12_149 X (by decide)) (va_recv X.K Y.1 (q := (RX12, TX12, 15)) (q0 := 0) (ci := 12) rfl rfl) rfl hl.1 (Nat.le_of_ble_eq_true rfl) rfl dX12_over_15 ⟨Nat.zero_le _, Nat.zero_le _⟩) (fun H locs Y => ?_)
    refine lv_if_ne (tgt := 26) hx hb dX12_over_18 (by decide) (fun c_4 => ?_) (fun c_4 => ?_)
    · have hf := ite_f hf c_4
      refine lv_aload_n hx hb dX12_over_26 rfl (lv_at hl 0 rfl) ?_
      refine gfX12_7 X Y (v := .ref (Am 1)) 0 rfl rfl dX12_over_27 ?_
      refine lv_iconst (v := (4 : Int32)) hx hb dX12_over_30 (by decide) ?_
      refine x_iald X Y 1 rfl (j := 4) rfl rfl dX12_over_31 ?_
      refine lv_bipush (v := (8 : Int32)) hx hb dX12_over_32 (by decide) ?_
      refine lv_icmp_ne (tgt := 81) hx hb dX12_over_34 (by decide) (fun c_5 => ?_) (fun c_5 => ?_)
      · have hf := ite_f hf c_5
        exact bM_over_81 X hf Y (lv_sub hl [0, 1] rfl)
      · have hf := ite_t hf c_5
        refine lv_iconst (v := (0 : Int32)) hx hb dX12_over_37 (by decide) ?_
        refine lv_istore_n (lv' := [(2, .int (0 : Int32)), (0, .ref (Am 0)), (1, .int x1)]) hx hb dX12_over_38 rfl hl (by decide) rfl (fun ls hl => ?_)
        exact lM_over_39 X _ _ _ _ _ hf _ _ _ Y (lv_sub hl [1, 2, 0] rfl)
    · have hf := ite_t hf c_4
      refine lv_aload_n hx hb dX12_over_21 rfl (lv_at hl 0 rfl) ?_
      obtain ⟨r_6, rf_7, ho_8, hf⟩ := bd2_some hf
      refine t_i Y (bkS Y) (r_V (As := []) (rest := []) X (c_preS X Y) (cM_no ho_8) (cwX12_152 X (by decide)) (va_recv X.K Y.1 (q := (RX12, TX12, 15)) (q0 := 0) (ci := 12) rfl rfl) rfl hl.1 (Nat.le_of_ble_eq_true rfl) rfl dX12_over_22 ⟨Nat.zero_le _, Nat.zero_le _⟩) (fun H locs Y => ?_)
      obtain ⟨e90, e91, e92⟩ := sj3 hf
      subst e90
      subst e91
      subst e92
      exact x_iret X Y dX12_over_25
  · have hf := ite_t hf c_2
    refine lv_aload_n hx hb dX12_over_8 rfl (lv_at hl 0 rfl) ?_
    obtain ⟨r_10, rf_11, ho_12, hf⟩ := bd2_some hf
    refine t_i Y (bkS Y) (r_V (As := []) (rest := []) X (c_preS X Y) (cM_bad ho_12) (cwX12_44 X (by decide)) (va_recv X.K Y.1 (q := (RX12, TX12, 15)) (q0 := 0) (ci := 12) rfl rfl) rfl hl.1 (Nat.le_of_ble_eq_true rfl) rfl dX12_over_9 ⟨Nat.zero_le _, Nat.zero_le _⟩) (fun H locs Y => ?_)
    obtain ⟨e90, e91, e92⟩ := sj3 hf
    subst e90
    subst e91
    subst e92
    exact x_iret X Y dX12_over_12
theorem cM_over {l : Launch} {Γ : Gm} {Am : Nat → Nat} {w : Nat → Int32} {kp : Nat → Int32} {tx : Nat → Int32} {td : Int32} {rf : Nat → Int32} {fa : Int64} {fb : Int64} {ap : Int32} {sp : Int32} {iw : Int32} {ig : Int32} {nu : Nat → Int32} {lst : Int32} {lwo : Int32} {hh : Int64} {w_z : Nat → Int32} {rf_z : Nat → Int32} {r0 : Int32} {x1 : Int32} (h : M_over x1 w rf = some (r0, w_z, rf_z)) : CI l Γ yX12_over (Cond.code yX12_over cX12_over 3 (some .int) :: GW) rmM_over [.ref (Am 0), .int x1] (WM Γ Am w kp tx td rf fa fb ap sp iw ig nu lst lwo hh) (WM Γ Am w_z kp tx td rf_z fa fb ap sp iw ig nu lst lwo hh) r0 := ofBody (Qc := QcI Γ _ _ r0) (by decide) (Nat.le_of_ble_eq_true rfl) (fun p e s m below meth c ls _ X Y hl => bM_over_e X h Y hl)
end
