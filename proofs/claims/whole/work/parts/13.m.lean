section
variable {p : Program} {l : Launch} {e : Env} {R : Room} {s : State} {m : MethodId} {args : Array Value} {below : List Frame} {meth : Method} {c : Code} {H : Heap} {locs : List Loc} {Q : State → Prop} {cells slots : Nat}
variable {Γ : Gm} {own : String} {cc : ByteArray} {nL : Nat} {ret : Option FieldType} {w0 ws ws' : va_W} {pc : Nat} {ls : Array Slot} {rest : List Value} {a : Nat}
theorem dmX12_onesS : yX12_ones.cls ≠ "java/lang/invoke/MethodHandle" ∧ yX12_ones.cls ≠ "java/lang/invoke/VarHandle" ∧ (parseMethodDescriptor yX12_ones.desc).map (fun d => d.parameters.length) = some 1 := by decide +kernel
theorem cwX12_155 (X : Cx Γ p s m args meth c RX12 cc nL ret w0) (hR : rmM_ones.frames + 1 ≤ R.frames ∧ 8 + (3 + 11) + rmM_ones.locals ≤ R.locals) : CallB R s args RX12 155 yX12_ones cX12_ones 3 (some .int) (Cond.code yX12_ones cX12_ones 3 (some .int) :: GW) rmM_ones 0 0 1 ∧ (Cond.static yX12_ones).before args s = true := cw_S X kw113 kw114 kw4 kw115 dmX12_onesS rfl rfl hR
def rmM_undo : Room := { frames := 1, cells := 0, slots := 0, locals := 22 }
def M_undo (w : Nat → Int32) (rf : Nat → Int32) : Option (Int32 × (Nat → Int32) × (Nat → Int32)) := if (w 4) = 0 then (bd2 (M_no rf) (fun (r_9 : Int32) (rf_10 : Nat → Int32) => some (r_9, w, rf_10))) else (bnd ((w 4) - (1 : Int32)) (fun (v_2 : Int32) => bnd (upd w 4 v_2) (fun (w_3 : Nat → Int32) => ck (inb ((72 : Int32) + (w_3 4)) 320) (bnd (w_3 ((72 : Int32) + (w_3 4)).toNatClampNeg) (fun (v_5 : Int32) => bnd (upd w_3 5 v_5) (fun (w_6 : Nat → Int32) => bd1 (M_ones (w_6 5)) (fun (r_7 : Int32) => some (r_7, w_6, rf))))))))
set_option maxHeartbeats 4000000 in
set_option maxRecDepth 100000 in
theorem bM_undo_e {Am : Nat → Nat} {w : Nat → Int32} {kp : Nat → Int32} {tx : Nat → Int32} {td : Int32} {rf : Nat → Int32} {fa : Int64} {fb : Int64} {ap : Int32} {sp : Int32} {iw : Int32} {ig : Int32} {nu : Nat → Int32} {lst : Int32} {lwo : Int32} {hh : Int64} {w_z : Nat → Int32} {rf_z : Nat → Int32} {r0 : Int32} (X : Cx Γ p s m args meth c RX12 cX12_undo 1 (some .int) w0) (hf : M_undo w rf = some (r0, w_z, rf_z)) (Y : Wd Γ w0 s (WM Γ Am w kp tx td rf fa fb ap sp iw ig nu lst lwo hh) H locs) (hl : lv_has ls 1 [(0, .ref (Am 0))]) : W p l e rmM_undo s m args below meth c H locs 0 0 (EI Γ below args s w0 (WM Γ Am w_z kp tx td rf_z fa fb ap sp iw ig nu lst lwo hh) r0) (F0 m 0 ls []) := by
  have hx := X.1
  have hb := X.2.1
  refine lv_aload_n hx hb dX12_undo_0 rfl (lv_at hl 0 rfl) ?_
  refine gfX12_7 X Y (v := .ref (Am 1)) 0 rfl rfl dX12_undo_1 ?_
  refine lv_iconst (v := (4 : Int32)) hx hb dX12_undo_4 (by decide) ?_
  refine x_iald X Y 1 rfl (j := 4) rfl rfl dX12_undo_5 ?_
  refine lv_if_ne (tgt := 14) hx hb dX12_undo_6 (by decide) (fun c_1 => ?_) (fun c_1 => ?_)
  · have hf := ite_f hf c_1
    refine lv_aload_n hx hb dX12_undo_14 rfl (lv_at hl 0 rfl) ?_
    refine gfX12_7 X Y (v := .ref (Am 1)) 0 rfl rfl dX12_undo_15 ?_
    refine lv_iconst (v := (4 : Int32)) hx hb dX12_undo_18 (by decide) ?_
    refine lv_dup2_11 hx hb dX12_undo_19 rfl rfl ?_
    refine x_iald X Y 1 rfl (j := 4) rfl rfl dX12_undo_20 ?_
    refine lv_iconst (v := (1 : Int32)) hx hb dX12_undo_21 (by decide) ?_
    refine lv_isub hx hb dX12_undo_22 ?_
    refine lv_topi (fun v_2 e_v_2 => ?_)
    have hf := bnd_eq hf e_v_2
    obtain ⟨w_3, e_w_3⟩ : ∃ z : Nat → Int32, z = (upd w 4 v_2) := ⟨_, rfl⟩
    have hf := bnd_eq hf e_w_3
    refine x_iast X Y 1 rfl (j := 4) rfl rfl (ws' := (WM Γ Am w_3 kp tx td rf fa fb ap sp iw ig nu lst lwo hh)) (by subst e_w_3; rfl) dX12_undo_23 (fun H locs Y => ?_)
    refine lv_aload_n hx hb dX12_undo_24 rfl (lv_at hl 0 rfl) ?_
    refine gfX12_7 X Y (v := .ref (Am 1)) 0 rfl rfl dX12_undo_25 ?_
    refine lv_iconst (v := (5 : Int32)) hx hb dX12_undo_28 (by decide) ?_
    refine lv_aload_n hx hb dX12_undo_29 rfl (lv_at hl 0 rfl) ?_
    refine gfX12_7 X Y (v := .ref (Am 1)) 0 rfl rfl dX12_undo_30 ?_
    refine lv_bipush (v := (72 : Int32)) hx hb dX12_undo_33 (by decide) ?_
    refine lv_aload_n hx hb dX12_undo_35 rfl (lv_at hl 0 rfl) ?_
    refine gfX12_7 X Y (v := .ref (Am 1)) 0 rfl rfl dX12_undo_36 ?_
    refine lv_iconst (v := (4 : Int32)) hx hb dX12_undo_39 (by decide) ?_
    refine x_iald X Y 1 rfl (j := 4) rfl rfl dX12_undo_40 ?_
    refine lv_iadd hx hb dX12_undo_41 ?_
    obtain ⟨hi_4, hf⟩ := ck_some hf
    refine x_iald X Y 1 rfl rfl hi_4 dX12_undo_42 ?_
    refine lv_topi (fun v_5 e_v_5 => ?_)
    have hf := bnd_eq hf e_v_5
    obtain ⟨w_6, e_w_6⟩ : ∃ z : Nat → Int32, z = (upd w_3 5 v_5) := ⟨_, rfl⟩
    have hf := bnd_eq hf e_w_6
    refine x_iast X Y 1 rfl (j := 5) rfl rfl (ws' := (WM Γ Am w_6 kp tx td rf fa fb ap sp iw ig nu lst lwo hh)) (by subst e_w_6; rfl) dX12_undo_43 (fun H locs Y => ?_)
    refine lv_aload_n hx hb dX12_undo_44 rfl (lv_at hl 0 rfl) ?_
    refine gfX12_7 X Y (v := .ref (Am 1)) 0 rfl rfl dX12_undo_45 ?_
    refine lv_iconst (v := (5 : Int32)) hx hb dX12_undo_48 (by decide) ?_
    refine x_iald X Y 1 rfl (j := 5) rfl rfl dX12_undo_49 ?_
    obtain ⟨r_7, ho_8, hf⟩ := bd1_some hf
    refine t_i Y (bk0 Y) (r_S (As := [.int (w_6 5)]) (rest := []) X (c_pre0 X Y) (cM_ones ho_8) (cwX12_155 X (by decide)) rfl hl.1 (Nat.le_of_ble_eq_true rfl) rfl dX12_undo_50 ⟨Nat.zero_le _, Nat.zero_le _⟩) (fun H locs Y => ?_)
    obtain ⟨e90, e91, e92⟩ := sj3 hf
    subst e90
    subst e91
    subst e92
    exact x_iret X Y dX12_undo_53
  · have hf := ite_t hf c_1
    refine lv_aload_n hx hb dX12_undo_9 rfl (lv_at hl 0 rfl) ?_
    obtain ⟨r_9, rf_10, ho_11, hf⟩ := bd2_some hf
    refine t_i Y (bkS Y) (r_V (As := []) (rest := []) X (c_preS X Y) (cM_no ho_11) (cwX12_152 X (by decide)) (va_recv X.K Y.1 (q := (RX12, TX12, 15)) (q0 := 0) (ci := 12) rfl rfl) rfl hl.1 (Nat.le_of_ble_eq_true rfl) rfl dX12_undo_10 ⟨Nat.zero_le _, Nat.zero_le _⟩) (fun H locs Y => ?_)
    obtain ⟨e90, e91, e92⟩ := sj3 hf
    subst e90
    subst e91
    subst e92
    exact x_iret X Y dX12_undo_13
theorem cM_undo {l : Launch} {Γ : Gm} {Am : Nat → Nat} {w : Nat → Int32} {kp : Nat → Int32} {tx : Nat → Int32} {td : Int32} {rf : Nat → Int32} {fa : Int64} {fb : Int64} {ap : Int32} {sp : Int32} {iw : Int32} {ig : Int32} {nu : Nat → Int32} {lst : Int32} {lwo : Int32} {hh : Int64} {w_z : Nat → Int32} {rf_z : Nat → Int32} {r0 : Int32} (h : M_undo w rf = some (r0, w_z, rf_z)) : CI l Γ yX12_undo (Cond.code yX12_undo cX12_undo 1 (some .int) :: GW) rmM_undo [.ref (Am 0)] (WM Γ Am w kp tx td rf fa fb ap sp iw ig nu lst lwo hh) (WM Γ Am w_z kp tx td rf_z fa fb ap sp iw ig nu lst lwo hh) r0 := ofBody (Qc := QcI Γ _ _ r0) (by decide) (Nat.le_of_ble_eq_true rfl) (fun p e s m below meth c ls _ X Y hl => bM_undo_e X h Y hl)
def rmM_of : Room := { frames := 3, cells := 0, slots := 0, locals := 72 }
def M_of_20 (w : Nat → Int32) (rf : Nat → Int32) : Option (Int32 × (Nat → Int32)) := bd2 (M_bad rf) (fun (r_1 : Int32) (rf_2 : Nat → Int32) => some (r_1, rf_2))
set_option maxHeartbeats 4000000 in
set_option maxRecDepth 100000 in
theorem bM_of_20 {Am : Nat → Nat} {w : Nat → Int32} {kp : Nat → Int32} {tx : Nat → Int32} {td : Int32} {rf : Nat → Int32} {fa : Int64} {fb : Int64} {ap : Int32} {sp : Int32} {iw : Int32} {ig : Int32} {nu : Nat → Int32} {lst : Int32} {lwo : Int32} {hh : Int64} {rf_z : Nat → Int32} {r0 : Int32} (X : Cx Γ p s m args meth c RX12 cX12_of 3 (some .int) w0) (hf : M_of_20 w rf = some (r0, rf_z)) (Y : Wd Γ w0 s (WM Γ Am w kp tx td rf fa fb ap sp iw ig nu lst lwo hh) H locs) (hl : lv_has ls 3 [(0, .ref (Am 0))]) : W p l e rmM_of s m args below meth c H locs 0 0 (EI Γ below args s w0 (WM Γ Am w kp tx td rf_z fa fb ap sp iw ig nu lst lwo hh) r0) (F0 m 20 ls []) := by
  have hx := X.1
  have hb := X.2.1
  refine lv_aload_n hx hb dX12_of_20 rfl (lv_at hl 0 rfl) ?_
  obtain ⟨r_1, rf_2, ho_3, hf⟩ := bd2_some hf
  refine t_i Y (bkS Y) (r_V (As := []) (rest := []) X (c_preS X Y) (cM_bad ho_3) (cwX12_44 X (by decide)) (va_recv X.K Y.1 (q := (RX12, TX12, 15)) (q0 := 0) (ci := 12) rfl rfl) rfl hl.1 (Nat.le_of_ble_eq_true rfl) rfl dX12_of_21 ⟨Nat.zero_le _, Nat.zero_le _⟩) (fun H locs Y => ?_)
  obtain ⟨e90, e91⟩ := sj2 hf
  subst e90
  subst e91
  exact x_iret X Y dX12_of_24
def M_of (x1 : Int32) (x2 : Int32) (w : Nat → Int32) (rf : Nat → Int32) : Option (Int32 × (Nat → Int32)) := bd1 (M_isGoods x1 w) (fun (r_1 : Int32) => if r_1 = 0 then (M_of_20 w rf) else (bd1 (M_in x2.toInt64 (0 : Int64) (7 : Int64)) (fun (r_3 : Int32) => if r_3 = 0 then (M_of_20 w rf) else (if (6 : Int32) ≤ x2 then (if x2 = (6 : Int32) then (bd1 (M_has (w 5) x1) (fun (r_10 : Int32) => if r_10 = 0 then (some ((0 : Int32), rf)) else (some ((1 : Int32), rf)))) else (bd1 (M_isFree x1 w) (fun (r_7 : Int32) => if r_7 = 0 then (some ((0 : Int32), rf)) else (some ((1 : Int32), rf))))) else (ck (inb (((6 : Int32) + ((8 : Int32) * x2)) + x1) 320) (some ((w (((6 : Int32) + ((8 : Int32) * x2)) + x1).toNatClampNeg), rf)))))))
set_option maxHeartbeats 4000000 in
set_option maxRecDepth 100000 in
theorem bM_of_e {Am : Nat → Nat} {w : Nat → Int32} {kp : Nat → Int32} {tx : Nat → Int32} {td : Int32} {rf : Nat → Int32} {fa : Int64} {fb : Int64} {ap : Int32} {sp : Int32} {iw : Int32} {ig : Int32} {nu : Nat → Int32} {lst : Int32} {lwo : Int32} {hh : Int64} {rf_z : Nat → Int32} {r0 : Int32} {x1 : Int32} {x2 : Int32} (X : Cx Γ p s m args meth c RX12 cX12_of 3 (some .int) w0) (hf : M_of x1 x2 w rf = some (r0, rf_z)) (Y : Wd Γ w0 s (WM Γ Am w kp tx td rf fa fb ap sp iw ig nu lst lwo hh) H locs) (hl : lv_has ls 3 [(0, .ref (Am 0)), (1, .int x1), (2, .int x2)]) : W p l e rmM_of s m args below meth c H locs 0 0 (EI Γ below args s w0 (WM Γ Am w kp tx td rf_z fa fb ap sp iw ig nu lst lwo hh) r0) (F0 m 0 ls []) := by
  have hx := X.1
  have hb := X.2.1
  refine lv_aload_n hx hb dX12_of_0 rfl (lv_at hl 0 rfl) ?_
  refine lv_iload_n hx hb dX12_of_1 rfl (lv_at hl 1 rfl) ?_
  obtain ⟨r_1, ho_15, hf⟩ := bd1_some hf
  refine t_i Y (bkS Y) (r_V (As := [.int x1]) (rest := []) X (c_preS X Y) (cM_isGoods ho_15) (cwX12_67 X (by decide)) (va_recv X.K Y.1 (q := (RX12, TX12, 15)) (q0 := 0) (ci := 12) rfl rfl) rfl hl.1 (Nat.le_of_ble_eq_true rfl) rfl dX12_of_2 ⟨Nat.zero_le _, Nat.zero_le _⟩) (fun H locs Y => ?_)
  refine lv_if_eq (tgt := 20) hx hb dX12_of_5 (by decide) (fun c_2 => ?_) (fun c_2 => ?_)
  · have hf := ite_t hf c_2
    exact bM_of_20 X hf Y (lv_sub hl [0] rfl)
  · have hf := ite_f hf c_2
    refine lv_iload_n hx hb dX12_of_8 rfl (lv_at hl 2 rfl) ?_
    refine lv_i2l (v := x2.toInt64) hx hb dX12_of_9 rfl ?_
    refine lv_lconst (v := (0 : Int64)) hx hb dX12_of_10 (by decide) ?_
    refine lv_ldc2 (v := (7 : Int64)) hx hb X.2.2.2.1 (X.2.2.2.2.1 _ kw116) dX12_of_11 ?_
    obtain ⟨r_3, ho_14, hf⟩ := bd1_some hf
    refine t_i Y (bk0 Y) (r_S (As := [.long x2.toInt64, .long (0 : Int64), .long (7 : Int64)]) (rest := []) X (c_pre0 X Y) (cM_in ho_14) (cwX12_34 X (by decide)) rfl hl.1 (Nat.le_of_ble_eq_true rfl) rfl dX12_of_14 ⟨Nat.zero_le _, Nat.zero_le _⟩) (fun H locs Y => ?_)
    refine lv_if_ne (tgt := 25) hx hb dX12_of_17 (by decide) (fun c_4 => ?_) (fun c_4 => ?_)
    · have hf := ite_f hf c_4
      refine lv_iload_n hx hb dX12_of_25 rfl (lv_at hl 2 rfl) ?_
      refine lv_bipush (v := (6 : Int32)) hx hb dX12_of_26 (by decide) ?_
      refine lv_icmp_ge (tgt := 46) hx hb dX12_of_28 (by decide) (fun c_5 => ?_) (fun c_5 => ?_)
      · have hf := ite_t hf c_5
        refine lv_iload_n hx hb dX12_of_46 rfl (lv_at hl 2 rfl) ?_
        refine lv_bipush (v := (6 : Int32)) hx hb dX12_of_47 (by decide) ?_
        refine lv_icmp_ne (tgt := 68) hx hb dX12_of_49 (by decide) (fun c_6 => ?_) (fun c_6 => ?_)
        · have hf := ite_f hf c_6
          refine lv_aload_n hx hb dX12_of_68 rfl (lv_at hl 0 rfl) ?_
          refine lv_iload_n hx hb dX12_of_69 rfl (lv_at hl 1 rfl) ?_
          obtain ⟨r_7, ho_9, hf⟩ := bd1_some hf
          refine t_i Y (bkS Y) (r_V (As := [.int x1]) (rest := []) X (c_preS X Y) (cM_isFree ho_9) (cwX12_149 X (by decide)) (va_recv X.K Y.1 (q := (RX12, TX12, 15)) (q0 := 0) (ci := 12) rfl rfl) rfl hl.1 (Nat.le_of_ble_eq_true rfl) rfl dX12_of_70 ⟨Nat.zero_le _, Nat.zero_le _⟩) (fun H locs Y => ?_)
          refine lv_if_eq (tgt := 80) hx hb dX12_of_73 (by decide) (fun c_8 => ?_) (fun c_8 => ?_)
          · have hf := ite_t hf c_8
            refine lv_iconst (v := (0 : Int32)) hx hb dX12_of_80 (by decide) ?_
            obtain ⟨e90, e91⟩ := sj2 hf
            subst e90
            subst e91
            exact x_iret X Y dX12_of_81
          · have hf := ite_f hf c_8
            refine lv_iconst (v := (1 : Int32)) hx hb dX12_of_76 (by decide) ?_
            refine lv_goto (tgt := 81) hx hb dX12_of_77 (by decide) ?_
            obtain ⟨e90, e91⟩ := sj2 hf
            subst e90
            subst e91
            exact x_iret X Y dX12_of_81
        · have hf := ite_t hf c_6
          refine lv_aload_n hx hb dX12_of_52 rfl (lv_at hl 0 rfl) ?_
          refine gfX12_7 X Y (v := .ref (Am 1)) 0 rfl rfl dX12_of_53 ?_
          refine lv_iconst (v := (5 : Int32)) hx hb dX12_of_56 (by decide) ?_
          refine x_iald X Y 1 rfl (j := 5) rfl rfl dX12_of_57 ?_
          refine lv_iload_n hx hb dX12_of_58 rfl (lv_at hl 1 rfl) ?_
          obtain ⟨r_10, ho_12, hf⟩ := bd1_some hf
          refine t_i Y (bk0 Y) (r_S (As := [.int (w 5), .int x1]) (rest := []) X (c_pre0 X Y) (cM_has ho_12) (cwX12_70 X (by decide)) rfl hl.1 (Nat.le_of_ble_eq_true rfl) rfl dX12_of_59 ⟨Nat.zero_le _, Nat.zero_le _⟩) (fun H locs Y => ?_)
          refine lv_if_eq (tgt := 80) hx hb dX12_of_62 (by decide) (fun c_11 => ?_) (fun c_11 => ?_)
          · have hf := ite_t hf c_11
            refine lv_iconst (v := (0 : Int32)) hx hb dX12_of_80 (by decide) ?_
            obtain ⟨e90, e91⟩ := sj2 hf
            subst e90
            subst e91
            exact x_iret X Y dX12_of_81
          · have hf := ite_f hf c_11
            refine lv_goto (tgt := 76) hx hb dX12_of_65 (by decide) ?_
            refine lv_iconst (v := (1 : Int32)) hx hb dX12_of_76 (by decide) ?_
            refine lv_goto (tgt := 81) hx hb dX12_of_77 (by decide) ?_
            obtain ⟨e90, e91⟩ := sj2 hf
            subst e90
            subst e91
            exact x_iret X Y dX12_of_81
      · have hf := ite_f hf c_5
        refine lv_aload_n hx hb dX12_of_31 rfl (lv_at hl 0 rfl) ?_
        refine gfX12_7 X Y (v := .ref (Am 1)) 0 rfl rfl dX12_of_32 ?_
        refine lv_bipush (v := (6 : Int32)) hx hb dX12_of_35 (by decide) ?_
        refine lv_bipush (v := (8 : Int32)) hx hb dX12_of_37 (by decide) ?_
        refine lv_iload_n hx hb dX12_of_39 rfl (lv_at hl 2 rfl) ?_
        refine lv_imul hx hb dX12_of_40 ?_
        refine lv_iadd hx hb dX12_of_41 ?_
        refine lv_iload_n hx hb dX12_of_42 rfl (lv_at hl 1 rfl) ?_
        refine lv_iadd hx hb dX12_of_43 ?_
        obtain ⟨hi_13, hf⟩ := ck_some hf
        refine x_iald X Y 1 rfl rfl hi_13 dX12_of_44 ?_
        obtain ⟨e90, e91⟩ := sj2 hf
        subst e90
        subst e91
        exact x_iret X Y dX12_of_45
    · have hf := ite_t hf c_4
      exact bM_of_20 X hf Y (lv_sub hl [0] rfl)
theorem cM_of {l : Launch} {Γ : Gm} {Am : Nat → Nat} {w : Nat → Int32} {kp : Nat → Int32} {tx : Nat → Int32} {td : Int32} {rf : Nat → Int32} {fa : Int64} {fb : Int64} {ap : Int32} {sp : Int32} {iw : Int32} {ig : Int32} {nu : Nat → Int32} {lst : Int32} {lwo : Int32} {hh : Int64} {rf_z : Nat → Int32} {r0 : Int32} {x1 : Int32} {x2 : Int32} (h : M_of x1 x2 w rf = some (r0, rf_z)) : CI l Γ yX12_of (Cond.code yX12_of cX12_of 3 (some .int) :: GW) rmM_of [.ref (Am 0), .int x1, .int x2] (WM Γ Am w kp tx td rf fa fb ap sp iw ig nu lst lwo hh) (WM Γ Am w kp tx td rf_z fa fb ap sp iw ig nu lst lwo hh) r0 := ofBody (Qc := QcI Γ _ _ r0) (by decide) (Nat.le_of_ble_eq_true rfl) (fun p e s m below meth c ls _ X Y hl => bM_of_e X h Y hl)
def rmM_heavyOf : Room := { frames := 1, cells := 0, slots := 0, locals := 21 }
def M_heavyOf_4 (rc4 : Int32 → Int32 → Int32 → (Nat → Int32) → Option (Int32)) (x1 : Int32) (x2 : Int32) (x3 : Int32) (w : Nat → Int32) : Option (Int32) := if (w 0) ≤ x3 then (some x2) else (bd1 (M_has x1 x3) (fun (r_2 : Int32) => if r_2 = 0 then (bnd (x2 + (0 : Int32)) (fun (x2_4 : Int32) => bnd (x3 + (1 : Int32)) (fun (x3_5 : Int32) => rc4 x1 x2_4 x3_5 w))) else (ck (inb ((30 : Int32) + x3) 320) (bnd (x2 + (w ((30 : Int32) + x3).toNatClampNeg)) (fun (x2_7 : Int32) => bnd (x3 + (1 : Int32)) (fun (x3_8 : Int32) => rc4 x1 x2_7 x3_8 w))))))
set_option maxHeartbeats 4000000 in
set_option maxRecDepth 100000 in
theorem bM_heavyOf_4 {Am : Nat → Nat} {w : Nat → Int32} {kp : Nat → Int32} {tx : Nat → Int32} {td : Int32} {rf : Nat → Int32} {fa : Int64} {fb : Int64} {ap : Int32} {sp : Int32} {iw : Int32} {ig : Int32} {nu : Nat → Int32} {lst : Int32} {lwo : Int32} {hh : Int64} {r0 : Int32} {x1 : Int32} {x2 : Int32} {x3 : Int32} {rc4 : Int32 → Int32 → Int32 → (Nat → Int32) → Option (Int32)} (X : Cx Γ p s m args meth c RX12 cX12_heavyOf 4 (some .int) w0) (h4 : ∀ (x1 : Int32) (x2 : Int32) (x3 : Int32) (w : Nat → Int32), rc4 x1 x2 x3 w = some r0 → ∀ (H : Heap) (locs : List Loc) (ls : Array Slot), Wd Γ w0 s (WM Γ Am w kp tx td rf fa fb ap sp iw ig nu lst lwo hh) H locs → lv_has ls 4 [(0, .ref (Am 0)), (1, .int x1), (2, .int x2), (3, .int x3)] → W p l e rmM_heavyOf s m args below meth c H locs 0 0 (EI Γ below args s w0 (WM Γ Am w kp tx td rf fa fb ap sp iw ig nu lst lwo hh) r0) (F0 m 4 ls [])) (hf : M_heavyOf_4 rc4 x1 x2 x3 w = some r0) (Y : Wd Γ w0 s (WM Γ Am w kp tx td rf fa fb ap sp iw ig nu lst lwo hh) H locs) (hl : lv_has ls 4 [(0, .ref (Am 0)), (1, .int x1), (2, .int x2), (3, .int x3)]) : W p l e rmM_heavyOf s m args below meth c H locs 0 0 (EI Γ below args s w0 (WM Γ Am w kp tx td rf fa fb ap sp iw ig nu lst lwo hh) r0) (F0 m 4 ls []) := by
  have hx := X.1
  have hb := X.2.1
  refine lv_iload_n hx hb dX12_heavyOf_4 rfl (lv_at hl 3 rfl) ?_
  refine lv_aload_n hx hb dX12_heavyOf_5 rfl (lv_at hl 0 rfl) ?_
  refine gfX12_7 X Y (v := .ref (Am 1)) 0 rfl rfl dX12_heavyOf_6 ?_
  refine lv_iconst (v := (0 : Int32)) hx hb dX12_heavyOf_9 (by decide) ?_
  refine x_iald X Y 1 rfl (j := 0) rfl rfl dX12_heavyOf_10 ?_
  refine lv_icmp_ge (tgt := 44) hx hb dX12_heavyOf_11 (by decide) (fun c_1 => ?_) (fun c_1 => ?_)
  · have hf := ite_t hf c_1
    refine lv_iload_n hx hb dX12_heavyOf_44 rfl (lv_at hl 2 rfl) ?_
    have e90 := Option.some.inj hf
    subst e90
    exact x_iret X Y dX12_heavyOf_45
  · have hf := ite_f hf c_1
    refine lv_iload_n hx hb dX12_heavyOf_14 rfl (lv_at hl 2 rfl) ?_
    refine lv_iload_n hx hb dX12_heavyOf_15 rfl (lv_at hl 1 rfl) ?_
    refine lv_iload_n hx hb dX12_heavyOf_16 rfl (lv_at hl 3 rfl) ?_
    obtain ⟨r_2, ho_9, hf⟩ := bd1_some hf
    refine t_i Y (bk0 Y) (r_S (As := [.int x1, .int x3]) (rest := [.int x2]) X (c_pre0 X Y) (cM_has ho_9) (cwX12_70 X (by decide)) rfl hl.1 (Nat.le_of_ble_eq_true rfl) rfl dX12_heavyOf_17 ⟨Nat.zero_le _, Nat.zero_le _⟩) (fun H locs Y => ?_)
    refine lv_if_eq (tgt := 35) hx hb dX12_heavyOf_20 (by decide) (fun c_3 => ?_) (fun c_3 => ?_)
    · have hf := ite_t hf c_3
      refine lv_iconst (v := (0 : Int32)) hx hb dX12_heavyOf_35 (by decide) ?_
      refine lv_iadd hx hb dX12_heavyOf_36 ?_
      refine lv_topi (fun x2_4 e_x2_4 => ?_)
      have hf := bnd_eq hf e_x2_4
      refine lv_istore_n (lv' := [(2, .int x2_4), (0, .ref (Am 0)), (1, .int x1), (3, .int x3)]) hx hb dX12_heavyOf_37 rfl hl (by decide) rfl (fun ls hl => ?_)
      obtain ⟨x3_5, e_x3_5⟩ : ∃ z : Int32, z = (x3 + (1 : Int32)) := ⟨_, rfl⟩
      have hf := bnd_eq hf e_x3_5
      refine lv_iinc (v := x3_5) (lv' := [(3, .int x3_5), (2, .int x2_4), (0, .ref (Am 0)), (1, .int x1)]) hx hb dX12_heavyOf_38 hl (k := 3) rfl (by rw [e_x3_5]; rfl) (by decide) rfl (fun ls hl => ?_)
      refine lv_goto (tgt := 4) hx hb dX12_heavyOf_41 (by decide) ?_
      exact h4 _ _ _ _ hf _ _ _ Y (lv_sub hl [2, 3, 1, 0] rfl)
    · have hf := ite_f hf c_3
      refine lv_aload_n hx hb dX12_heavyOf_23 rfl (lv_at hl 0 rfl) ?_
      refine gfX12_7 X Y (v := .ref (Am 1)) 0 rfl rfl dX12_heavyOf_24 ?_
      refine lv_bipush (v := (30 : Int32)) hx hb dX12_heavyOf_27 (by decide) ?_
      refine lv_iload_n hx hb dX12_heavyOf_29 rfl (lv_at hl 3 rfl) ?_
      refine lv_iadd hx hb dX12_heavyOf_30 ?_
      obtain ⟨hi_6, hf⟩ := ck_some hf
      refine x_iald X Y 1 rfl rfl hi_6 dX12_heavyOf_31 ?_
      refine lv_goto (tgt := 36) hx hb dX12_heavyOf_32 (by decide) ?_
      refine lv_iadd hx hb dX12_heavyOf_36 ?_
      refine lv_topi (fun x2_7 e_x2_7 => ?_)
      have hf := bnd_eq hf e_x2_7
      refine lv_istore_n (lv' := [(2, .int x2_7), (0, .ref (Am 0)), (1, .int x1), (3, .int x3)]) hx hb dX12_heavyOf_37 rfl hl (by decide) rfl (fun ls hl => ?_)
      obtain ⟨x3_8, e_x3_8⟩ : ∃ z : Int32, z = (x3 + (1 : Int32)) := ⟨_, rfl⟩
      have hf := bnd_eq hf e_x3_8
      refine lv_iinc (v := x3_8) (lv' := [(3, .int x3_8), (2, .int x2_7), (0, .ref (Am 0)), (1, .int x1)]) hx hb dX12_heavyOf_38 hl (k := 3) rfl (by rw [e_x3_8]; rfl) (by decide) rfl (fun ls hl => ?_)
      refine lv_goto (tgt := 4) hx hb dX12_heavyOf_41 (by decide) ?_
      exact h4 _ _ _ _ hf _ _ _ Y (lv_sub hl [2, 3, 1, 0] rfl)
def M_heavyOf_L4 : Nat → Int32 → Int32 → Int32 → (Nat → Int32) → Option (Int32)
  | 0, _, _, _, _ => none
  | n + 1, x1, x2, x3, w => M_heavyOf_4 (M_heavyOf_L4 n) x1 x2 x3 w
theorem lM_heavyOf_4 {Am : Nat → Nat} {kp : Nat → Int32} {tx : Nat → Int32} {td : Int32} {rf : Nat → Int32} {fa : Int64} {fb : Int64} {ap : Int32} {sp : Int32} {iw : Int32} {ig : Int32} {nu : Nat → Int32} {lst : Int32} {lwo : Int32} {hh : Int64} {r0 : Int32} (X : Cx Γ p s m args meth c RX12 cX12_heavyOf 4 (some .int) w0) : ∀ (n : Nat) (x1 : Int32) (x2 : Int32) (x3 : Int32) (w : Nat → Int32), M_heavyOf_L4 n x1 x2 x3 w = some r0 → ∀ (H : Heap) (locs : List Loc) (ls : Array Slot), Wd Γ w0 s (WM Γ Am w kp tx td rf fa fb ap sp iw ig nu lst lwo hh) H locs → lv_has ls 4 [(0, .ref (Am 0)), (1, .int x1), (2, .int x2), (3, .int x3)] → W p l e rmM_heavyOf s m args below meth c H locs 0 0 (EI Γ below args s w0 (WM Γ Am w kp tx td rf fa fb ap sp iw ig nu lst lwo hh) r0) (F0 m 4 ls []) := by
  intro n
  induction n with
  | zero => intro x1 x2 x3 w hf; cases hf
  | succ n ih => intro x1 x2 x3 w hf H locs ls Y hl; exact bM_heavyOf_4 X ih hf Y hl
def M_heavyOf (x1 : Int32) (w : Nat → Int32) : Option (Int32) := M_heavyOf_L4 FU x1 (0 : Int32) (0 : Int32) w
set_option maxHeartbeats 4000000 in
set_option maxRecDepth 100000 in
theorem bM_heavyOf_e {Am : Nat → Nat} {w : Nat → Int32} {kp : Nat → Int32} {tx : Nat → Int32} {td : Int32} {rf : Nat → Int32} {fa : Int64} {fb : Int64} {ap : Int32} {sp : Int32} {iw : Int32} {ig : Int32} {nu : Nat → Int32} {lst : Int32} {lwo : Int32} {hh : Int64} {r0 : Int32} {x1 : Int32} (X : Cx Γ p s m args meth c RX12 cX12_heavyOf 4 (some .int) w0) (hf : M_heavyOf x1 w = some r0) (Y : Wd Γ w0 s (WM Γ Am w kp tx td rf fa fb ap sp iw ig nu lst lwo hh) H locs) (hl : lv_has ls 4 [(0, .ref (Am 0)), (1, .int x1)]) : W p l e rmM_heavyOf s m args below meth c H locs 0 0 (EI Γ below args s w0 (WM Γ Am w kp tx td rf fa fb ap sp iw ig nu lst lwo hh) r0) (F0 m 0 ls []) := by
  have hx := X.1
  have hb := X.2.1
  refine lv_iconst (v := (0 : Int32)) hx hb dX12_heavyOf_0 (by decide) ?_
  refine lv_istore_n (lv' := [(2, .int (0 : Int32)), (0, .ref (Am 0)), (1, .int x1)]) hx hb dX12_heavyOf_1 rfl hl (by decide) rfl (fun ls hl => ?_)
  refine lv_iconst (v := (0 : Int32)) hx hb dX12_heavyOf_2 (by decide) ?_
  refine lv_istore_n (lv' := [(3, .int (0 : Int32)), (2, .int (0 : Int32)), (0, .ref (Am 0)), (1, .int x1)]) hx hb dX12_heavyOf_3 rfl hl (by decide) rfl (fun ls hl => ?_)
  exact lM_heavyOf_4 X _ _ _ _ _ hf _ _ _ Y (lv_sub hl [2, 3, 1, 0] rfl)
theorem cM_heavyOf {l : Launch} {Γ : Gm} {Am : Nat → Nat} {w : Nat → Int32} {kp : Nat → Int32} {tx : Nat → Int32} {td : Int32} {rf : Nat → Int32} {fa : Int64} {fb : Int64} {ap : Int32} {sp : Int32} {iw : Int32} {ig : Int32} {nu : Nat → Int32} {lst : Int32} {lwo : Int32} {hh : Int64} {r0 : Int32} {x1 : Int32} (h : M_heavyOf x1 w = some r0) : CI l Γ yX12_heavyOf (Cond.code yX12_heavyOf cX12_heavyOf 4 (some .int) :: GW) rmM_heavyOf [.ref (Am 0), .int x1] (WM Γ Am w kp tx td rf fa fb ap sp iw ig nu lst lwo hh) (WM Γ Am w kp tx td rf fa fb ap sp iw ig nu lst lwo hh) r0 := ofBody (Qc := QcI Γ _ _ r0) (by decide) (Nat.le_of_ble_eq_true rfl) (fun p e s m below meth c ls _ X Y hl => bM_heavyOf_e X h Y hl)
def rmM_worthOf : Room := { frames := 1, cells := 0, slots := 0, locals := 21 }
def M_worthOf_4 (rc4 : Int32 → Int32 → Int32 → (Nat → Int32) → Option (Int32)) (x1 : Int32) (x2 : Int32) (x3 : Int32) (w : Nat → Int32) : Option (Int32) := if (w 0) ≤ x3 then (some x2) else (bd1 (M_has x1 x3) (fun (r_2 : Int32) => if r_2 = 0 then (bnd (x2 + (0 : Int32)) (fun (x2_4 : Int32) => bnd (x3 + (1 : Int32)) (fun (x3_5 : Int32) => rc4 x1 x2_4 x3_5 w))) else (ck (inb ((38 : Int32) + x3) 320) (bnd (x2 + (w ((38 : Int32) + x3).toNatClampNeg)) (fun (x2_7 : Int32) => bnd (x3 + (1 : Int32)) (fun (x3_8 : Int32) => rc4 x1 x2_7 x3_8 w))))))
set_option maxHeartbeats 4000000 in
set_option maxRecDepth 100000 in
theorem bM_worthOf_4 {Am : Nat → Nat} {w : Nat → Int32} {kp : Nat → Int32} {tx : Nat → Int32} {td : Int32} {rf : Nat → Int32} {fa : Int64} {fb : Int64} {ap : Int32} {sp : Int32} {iw : Int32} {ig : Int32} {nu : Nat → Int32} {lst : Int32} {lwo : Int32} {hh : Int64} {r0 : Int32} {x1 : Int32} {x2 : Int32} {x3 : Int32} {rc4 : Int32 → Int32 → Int32 → (Nat → Int32) → Option (Int32)} (X : Cx Γ p s m args meth c RX12 cX12_worthOf 4 (some .int) w0) (h4 : ∀ (x1 : Int32) (x2 : Int32) (x3 : Int32) (w : Nat → Int32), rc4 x1 x2 x3 w = some r0 → ∀ (H : Heap) (locs : List Loc) (ls : Array Slot), Wd Γ w0 s (WM Γ Am w kp tx td rf fa fb ap sp iw ig nu lst lwo hh) H locs → lv_has ls 4 [(0, .ref (Am 0)), (1, .int x1), (2, .int x2), (3, .int x3)] → W p l e rmM_worthOf s m args below meth c H locs 0 0 (EI Γ below args s w0 (WM Γ Am w kp tx td rf fa fb ap sp iw ig nu lst lwo hh) r0) (F0 m 4 ls [])) (hf : M_worthOf_4 rc4 x1 x2 x3 w = some r0) (Y : Wd Γ w0 s (WM Γ Am w kp tx td rf fa fb ap sp iw ig nu lst lwo hh) H locs) (hl : lv_has ls 4 [(0, .ref (Am 0)), (1, .int x1), (2, .int x2), (3, .int x3)]) : W p l e rmM_worthOf s m args below meth c H locs 0 0 (EI Γ below args s w0 (WM Γ Am w kp tx td rf fa fb ap sp iw ig nu lst lwo hh) r0) (F0 m 4 ls []) := by
  have hx := X.1
  have hb := X.2.1
  refine lv_iload_n hx hb dX12_worthOf_4 rfl (lv_at hl 3 rfl) ?_
  refine lv_aload_n hx hb dX12_worthOf_5 rfl (lv_at hl 0 rfl) ?_
  refine gfX12_7 X Y (v := .ref (Am 1)) 0 rfl rfl dX12_worthOf_6 ?_
  refine lv_iconst (v := (0 : Int32)) hx hb dX12_worthOf_9 (by decide) ?_
  refine x_iald X Y 1 rfl (j := 0) rfl rfl dX12_worthOf_10 ?_
  refine lv_icmp_ge (tgt := 44) hx hb dX12_worthOf_11 (by decide) (fun c_1 => ?_) (fun c_1 => ?_)
  · have hf := ite_t hf c_1
    refine lv_iload_n hx hb dX12_worthOf_44 rfl (lv_at hl 2 rfl) ?_
    have e90 := Option.some.inj hf
    subst e90
    exact x_iret X Y dX12_worthOf_45
  · have hf := ite_f hf c_1
    refine lv_iload_n hx hb dX12_worthOf_14 rfl (lv_at hl 2 rfl) ?_
    refine lv_iload_n hx hb dX12_worthOf_15 rfl (lv_at hl 1 rfl) ?_
    refine lv_iload_n hx hb dX12_worthOf_16 rfl (lv_at hl 3 rfl) ?_
    obtain ⟨r_2, ho_9, hf⟩ := bd1_some hf
    refine t_i Y (bk0 Y) (r_S (As := [.int x1, .int x3]) (rest := [.int x2]) X (c_pre0 X Y) (cM_has ho_9) (cwX12_70 X (by decide)) rfl hl.1 (Nat.le_of_ble_eq_true rfl) rfl dX12_worthOf_17 ⟨Nat.zero_le _, Nat.zero_le _⟩) (fun H locs Y => ?_)
    refine lv_if_eq (tgt := 35) hx hb dX12_worthOf_20 (by decide) (fun c_3 => ?_) (fun c_3 => ?_)
    · have hf := ite_t hf c_3
      refine lv_iconst (v := (0 : Int32)) hx hb dX12_worthOf_35 (by decide) ?_
      refine lv_iadd hx hb dX12_worthOf_36 ?_
      refine lv_topi (fun x2_4 e_x2_4 => ?_)
      have hf := bnd_eq hf e_x2_4
      refine lv_istore_n (lv' := [(2, .int x2_4), (0, .ref (Am 0)), (1, .int x1), (3, .int x3)]) hx hb dX12_worthOf_37 rfl hl (by decide) rfl (fun ls hl => ?_)
      obtain ⟨x3_5, e_x3_5⟩ : ∃ z : Int32, z = (x3 + (1 : Int32)) := ⟨_, rfl⟩
      have hf := bnd_eq hf e_x3_5
      refine lv_iinc (v := x3_5) (lv' := [(3, .int x3_5), (2, .int x2_4), (0, .ref (Am 0)), (1, .int x1)]) hx hb dX12_worthOf_38 hl (k := 3) rfl (by rw [e_x3_5]; rfl) (by decide) rfl (fun ls hl => ?_)
      refine lv_goto (tgt := 4) hx hb dX12_worthOf_41 (by decide) ?_
      exact h4 _ _ _ _ hf _ _ _ Y (lv_sub hl [2, 3, 1, 0] rfl)
    · have hf := ite_f hf c_3
      refine lv_aload_n hx hb dX12_worthOf_23 rfl (lv_at hl 0 rfl) ?_
      refine gfX12_7 X Y (v := .ref (Am 1)) 0 rfl rfl dX12_worthOf_24 ?_
      refine lv_bipush (v := (38 : Int32)) hx hb dX12_worthOf_27 (by decide) ?_
      refine lv_iload_n hx hb dX12_worthOf_29 rfl (lv_at hl 3 rfl) ?_
      refine lv_iadd hx hb dX12_worthOf_30 ?_
      obtain ⟨hi_6, hf⟩ := ck_some hf
      refine x_iald X Y 1 rfl rfl hi_6 dX12_worthOf_31 ?_
      refine lv_goto (tgt := 36) hx hb dX12_worthOf_32 (by decide) ?_
      refine lv_iadd hx hb dX12_worthOf_36 ?_
      refine lv_topi (fun x2_7 e_x2_7 => ?_)
      have hf := bnd_eq hf e_x2_7
      refine lv_istore_n (lv' := [(2, .int x2_7), (0, .ref (Am 0)), (1, .int x1), (3, .int x3)]) hx hb dX12_worthOf_37 rfl hl (by decide) rfl (fun ls hl => ?_)
      obtain ⟨x3_8, e_x3_8⟩ : ∃ z : Int32, z = (x3 + (1 : Int32)) := ⟨_, rfl⟩
      have hf := bnd_eq hf e_x3_8
      refine lv_iinc (v := x3_8) (lv' := [(3, .int x3_8), (2, .int x2_7), (0, .ref (Am 0)), (1, .int x1)]) hx hb dX12_worthOf_38 hl (k := 3) rfl (by rw [e_x3_8]; rfl) (by decide) rfl (fun ls hl => ?_)
      refine lv_goto (tgt := 4) hx hb dX12_worthOf_41 (by decide) ?_
      exact h4 _ _ _ _ hf _ _ _ Y (lv_sub hl [2, 3, 1, 0] rfl)
def M_worthOf_L4 : Nat → Int32 → Int32 → Int32 → (Nat → Int32) → Option (Int32)
  | 0, _, _, _, _ => none
  | n + 1, x1, x2, x3, w => M_worthOf_4 (M_worthOf_L4 n) x1 x2 x3 w
theorem lM_worthOf_4 {Am : Nat → Nat} {kp : Nat → Int32} {tx : Nat → Int32} {td : Int32} {rf : Nat → Int32} {fa : Int64} {fb : Int64} {ap : Int32} {sp : Int32} {iw : Int32} {ig : Int32} {nu : Nat → Int32} {lst : Int32} {lwo : Int32} {hh : Int64} {r0 : Int32} (X : Cx Γ p s m args meth c RX12 cX12_worthOf 4 (some .int) w0) : ∀ (n : Nat) (x1 : Int32) (x2 : Int32) (x3 : Int32) (w : Nat → Int32), M_worthOf_L4 n x1 x2 x3 w = some r0 → ∀ (H : Heap) (locs : List Loc) (ls : Array Slot), Wd Γ w0 s (WM Γ Am w kp tx td rf fa fb ap sp iw ig nu lst lwo hh) H locs → lv_has ls 4 [(0, .ref (Am 0)), (1, .int x1), (2, .int x2), (3, .int x3)] → W p l e rmM_worthOf s m args below meth c H locs 0 0 (EI Γ below args s w0 (WM Γ Am w kp tx td rf fa fb ap sp iw ig nu lst lwo hh) r0) (F0 m 4 ls []) := by
  intro n
  induction n with
  | zero => intro x1 x2 x3 w hf; cases hf
  | succ n ih => intro x1 x2 x3 w hf H locs ls Y hl; exact bM_worthOf_4 X ih hf Y hl
def M_worthOf (x1 : Int32) (w : Nat → Int32) : Option (Int32) := M_worthOf_L4 FU x1 (0 : Int32) (0 : Int32) w
set_option maxHeartbeats 4000000 in
set_option maxRecDepth 100000 in
theorem bM_worthOf_e {Am : Nat → Nat} {w : Nat → Int32} {kp : Nat → Int32} {tx : Nat → Int32} {td : Int32} {rf : Nat → Int32} {fa : Int64} {fb : Int64} {ap : Int32} {sp : Int32} {iw : Int32} {ig : Int32} {nu : Nat → Int32} {lst : Int32} {lwo : Int32} {hh : Int64} {r0 : Int32} {x1 : Int32} (X : Cx Γ p s m args meth c RX12 cX12_worthOf 4 (some .int) w0) (hf : M_worthOf x1 w = some r0) (Y : Wd Γ w0 s (WM Γ Am w kp tx td rf fa fb ap sp iw ig nu lst lwo hh) H locs) (hl : lv_has ls 4 [(0, .ref (Am 0)), (1, .int x1)]) : W p l e rmM_worthOf s m args below meth c H locs 0 0 (EI Γ below args s w0 (WM Γ Am w kp tx td rf fa fb ap sp iw ig nu lst lwo hh) r0) (F0 m 0 ls []) := by
  have hx := X.1
  have hb := X.2.1
  refine lv_iconst (v := (0 : Int32)) hx hb dX12_worthOf_0 (by decide) ?_
  refine lv_istore_n (lv' := [(2, .int (0 : Int32)), (0, .ref (Am 0)), (1, .int x1)]) hx hb dX12_worthOf_1 rfl hl (by decide) rfl (fun ls hl => ?_)
  refine lv_iconst (v := (0 : Int32)) hx hb dX12_worthOf_2 (by decide) ?_
  refine lv_istore_n (lv' := [(3, .int (0 : Int32)), (2, .int (0 : Int32)), (0, .ref (Am 0)), (1, .int x1)]) hx hb dX12_worthOf_3 rfl hl (by decide) rfl (fun ls hl => ?_)
  exact lM_worthOf_4 X _ _ _ _ _ hf _ _ _ Y (lv_sub hl [2, 3, 1, 0] rfl)
theorem cM_worthOf {l : Launch} {Γ : Gm} {Am : Nat → Nat} {w : Nat → Int32} {kp : Nat → Int32} {tx : Nat → Int32} {td : Int32} {rf : Nat → Int32} {fa : Int64} {fb : Int64} {ap : Int32} {sp : Int32} {iw : Int32} {ig : Int32} {nu : Nat → Int32} {lst : Int32} {lwo : Int32} {hh : Int64} {r0 : Int32} {x1 : Int32} (h : M_worthOf x1 w = some r0) : CI l Γ yX12_worthOf (Cond.code yX12_worthOf cX12_worthOf 4 (some .int) :: GW) rmM_worthOf [.ref (Am 0), .int x1] (WM Γ Am w kp tx td rf fa fb ap sp iw ig nu lst lwo hh) (WM Γ Am w kp tx td rf fa fb ap sp iw ig nu lst lwo hh) r0 := ofBody (Qc := QcI Γ _ _ r0) (by decide) (Nat.le_of_ble_eq_true rfl) (fun p e s m below meth c ls _ X Y hl => bM_worthOf_e X h Y hl)
theorem dmX12_heavyOfV : yX12_heavyOf.cls = RX12 ∧ yX12_heavyOf.cls ≠ "java/lang/invoke/MethodHandle" ∧ yX12_heavyOf.cls ≠ "java/lang/invoke/VarHandle" ∧ (parseMethodDescriptor yX12_heavyOf.desc).map (fun d => d.parameters.length) = some 1 := by decide +kernel
theorem cwX12_160 (X : Cx Γ p s m args meth c RX12 cc nL ret w0) (hR : rmM_heavyOf.frames + 1 ≤ R.frames ∧ 8 + (4 + 11) + rmM_heavyOf.locals ≤ R.locals) : CallW R s args RX12 RX12 160 yX12_heavyOf cX12_heavyOf 4 (some .int) (Cond.code yX12_heavyOf cX12_heavyOf 4 (some .int) :: GW) rmM_heavyOf 0 0 1 := cw_V X kw117 kw118 kw119 kw4 kw120 dmX12_heavyOfV rfl rfl hR
def rmM_isAlive : Room := { frames := 2, cells := 0, slots := 0, locals := 44 }
def M_isAlive (x1 : Int32) (x2 : Int32) (w : Nat → Int32) : Option (Int32) := bd1 (M_heavyOf x1 w) (fun (r_1 : Int32) => if ((w 2) - x2) < r_1 then (some (0 : Int32)) else (some (1 : Int32)))
set_option maxHeartbeats 4000000 in
set_option maxRecDepth 100000 in
theorem bM_isAlive_e {Am : Nat → Nat} {w : Nat → Int32} {kp : Nat → Int32} {tx : Nat → Int32} {td : Int32} {rf : Nat → Int32} {fa : Int64} {fb : Int64} {ap : Int32} {sp : Int32} {iw : Int32} {ig : Int32} {nu : Nat → Int32} {lst : Int32} {lwo : Int32} {hh : Int64} {r0 : Int32} {x1 : Int32} {x2 : Int32} (X : Cx Γ p s m args meth c RX12 cX12_isAlive 3 (some .boolean) w0) (hf : M_isAlive x1 x2 w = some r0) (Y : Wd Γ w0 s (WM Γ Am w kp tx td rf fa fb ap sp iw ig nu lst lwo hh) H locs) (hl : lv_has ls 3 [(0, .ref (Am 0)), (1, .int x1), (2, .int x2)]) : W p l e rmM_isAlive s m args below meth c H locs 0 0 (EI Γ below args s w0 (WM Γ Am w kp tx td rf fa fb ap sp iw ig nu lst lwo hh) r0) (F0 m 0 ls []) := by
  have hx := X.1
  have hb := X.2.1
  refine lv_aload_n hx hb dX12_isAlive_0 rfl (lv_at hl 0 rfl) ?_
  refine lv_iload_n hx hb dX12_isAlive_1 rfl (lv_at hl 1 rfl) ?_
  obtain ⟨r_1, ho_3, hf⟩ := bd1_some hf
  refine t_i Y (bkS Y) (r_V (As := [.int x1]) (rest := []) X (c_preS X Y) (cM_heavyOf ho_3) (cwX12_160 X (by decide)) (va_recv X.K Y.1 (q := (RX12, TX12, 15)) (q0 := 0) (ci := 12) rfl rfl) rfl hl.1 (Nat.le_of_ble_eq_true rfl) rfl dX12_isAlive_2 ⟨Nat.zero_le _, Nat.zero_le _⟩) (fun H locs Y => ?_)
  refine lv_aload_n hx hb dX12_isAlive_5 rfl (lv_at hl 0 rfl) ?_
  refine gfX12_7 X Y (v := .ref (Am 1)) 0 rfl rfl dX12_isAlive_6 ?_
  refine lv_iconst (v := (2 : Int32)) hx hb dX12_isAlive_9 (by decide) ?_
  refine x_iald X Y 1 rfl (j := 2) rfl rfl dX12_isAlive_10 ?_
  refine lv_iload_n hx hb dX12_isAlive_11 rfl (lv_at hl 2 rfl) ?_
  refine lv_isub hx hb dX12_isAlive_12 ?_
  refine lv_icmp_gt (tgt := 20) hx hb dX12_isAlive_13 (by decide) (fun c_2 => ?_) (fun c_2 => ?_)
  · have hf := ite_t hf c_2
    refine lv_iconst (v := (0 : Int32)) hx hb dX12_isAlive_20 (by decide) ?_
    have e90 := Option.some.inj hf
    subst e90
    exact x_zret X Y rfl dX12_isAlive_21
  · have hf := ite_f hf c_2
    refine lv_iconst (v := (1 : Int32)) hx hb dX12_isAlive_16 (by decide) ?_
    refine lv_goto (tgt := 21) hx hb dX12_isAlive_17 (by decide) ?_
    have e90 := Option.some.inj hf
    subst e90
    exact x_zret X Y rfl dX12_isAlive_21
theorem cM_isAlive {l : Launch} {Γ : Gm} {Am : Nat → Nat} {w : Nat → Int32} {kp : Nat → Int32} {tx : Nat → Int32} {td : Int32} {rf : Nat → Int32} {fa : Int64} {fb : Int64} {ap : Int32} {sp : Int32} {iw : Int32} {ig : Int32} {nu : Nat → Int32} {lst : Int32} {lwo : Int32} {hh : Int64} {r0 : Int32} {x1 : Int32} {x2 : Int32} (h : M_isAlive x1 x2 w = some r0) : CI l Γ yX12_isAlive (Cond.code yX12_isAlive cX12_isAlive 3 (some .boolean) :: GW) rmM_isAlive [.ref (Am 0), .int x1, .int x2] (WM Γ Am w kp tx td rf fa fb ap sp iw ig nu lst lwo hh) (WM Γ Am w kp tx td rf fa fb ap sp iw ig nu lst lwo hh) r0 := ofBody (Qc := QcI Γ _ _ r0) (by decide) (Nat.le_of_ble_eq_true rfl) (fun p e s m below meth c ls _ X Y hl => bM_isAlive_e X h Y hl)
theorem dmX12_isAliveV : yX12_isAlive.cls = RX12 ∧ yX12_isAlive.cls ≠ "java/lang/invoke/MethodHandle" ∧ yX12_isAlive.cls ≠ "java/lang/invoke/VarHandle" ∧ (parseMethodDescriptor yX12_isAlive.desc).map (fun d => d.parameters.length) = some 2 := by decide +kernel
theorem cwX12_166 (X : Cx Γ p s m args meth c RX12 cc nL ret w0) (hR : rmM_isAlive.frames + 1 ≤ R.frames ∧ 8 + (3 + 11) + rmM_isAlive.locals ≤ R.locals) : CallW R s args RX12 RX12 166 yX12_isAlive cX12_isAlive 3 (some .boolean) (Cond.code yX12_isAlive cX12_isAlive 3 (some .boolean) :: GW) rmM_isAlive 0 0 2 := cw_V X kw121 kw122 kw123 kw4 kw124 dmX12_isAliveV rfl rfl hR
theorem dmX12_isStormS : yX12_isStorm.cls ≠ "java/lang/invoke/MethodHandle" ∧ yX12_isStorm.cls ≠ "java/lang/invoke/VarHandle" ∧ (parseMethodDescriptor yX12_isStorm.desc).map (fun d => d.parameters.length) = some 1 := by decide +kernel
theorem cwX12_163 (X : Cx Γ p s m args meth c RX12 cc nL ret w0) (hR : rmM_isStorm.frames + 1 ≤ R.frames ∧ 8 + (1 + 11) + rmM_isStorm.locals ≤ R.locals) : CallB R s args RX12 163 yX12_isStorm cX12_isStorm 1 (some .boolean) (Cond.code yX12_isStorm cX12_isStorm 1 (some .boolean) :: GW) rmM_isStorm 0 0 1 ∧ (Cond.static yX12_isStorm).before args s = true := cw_S X kw125 kw126 kw4 kw127 dmX12_isStormS rfl rfl hR
def rmM_lives : Room := { frames := 3, cells := 0, slots := 0, locals := 66 }
def M_lives (x1 : Int32) (w : Nat → Int32) (rf : Nat → Int32) : Option (Int32 × (Nat → Int32)) := bd1 (M_isStorm x1) (fun (r_1 : Int32) => if r_1 = 0 then (bd2 (M_bad rf) (fun (r_6 : Int32) (rf_7 : Nat → Int32) => some (r_6, rf_7))) else (bd1 (M_isAlive (w 5) x1 w) (fun (r_3 : Int32) => if r_3 = 0 then (some ((0 : Int32), rf)) else (some ((1 : Int32), rf)))))
set_option maxHeartbeats 4000000 in
set_option maxRecDepth 100000 in
theorem bM_lives_e {Am : Nat → Nat} {w : Nat → Int32} {kp : Nat → Int32} {tx : Nat → Int32} {td : Int32} {rf : Nat → Int32} {fa : Int64} {fb : Int64} {ap : Int32} {sp : Int32} {iw : Int32} {ig : Int32} {nu : Nat → Int32} {lst : Int32} {lwo : Int32} {hh : Int64} {rf_z : Nat → Int32} {r0 : Int32} {x1 : Int32} (X : Cx Γ p s m args meth c RX12 cX12_lives 2 (some .int) w0) (hf : M_lives x1 w rf = some (r0, rf_z)) (Y : Wd Γ w0 s (WM Γ Am w kp tx td rf fa fb ap sp iw ig nu lst lwo hh) H locs) (hl : lv_has ls 2 [(0, .ref (Am 0)), (1, .int x1)]) : W p l e rmM_lives s m args below meth c H locs 0 0 (EI Γ below args s w0 (WM Γ Am w kp tx td rf_z fa fb ap sp iw ig nu lst lwo hh) r0) (F0 m 0 ls []) := by
  have hx := X.1
  have hb := X.2.1
  refine lv_iload_n hx hb dX12_lives_0 rfl (lv_at hl 1 rfl) ?_
  obtain ⟨r_1, ho_9, hf⟩ := bd1_some hf
  refine t_i Y (bk0 Y) (r_S (As := [.int x1]) (rest := []) X (c_pre0 X Y) (cM_isStorm ho_9) (cwX12_163 X (by decide)) rfl hl.1 (Nat.le_of_ble_eq_true rfl) rfl dX12_lives_1 ⟨Nat.zero_le _, Nat.zero_le _⟩) (fun H locs Y => ?_)
  refine lv_if_ne (tgt := 12) hx hb dX12_lives_4 (by decide) (fun c_2 => ?_) (fun c_2 => ?_)
  · have hf := ite_f hf c_2
    refine lv_aload_n hx hb dX12_lives_12 rfl (lv_at hl 0 rfl) ?_
    refine lv_aload_n hx hb dX12_lives_13 rfl (lv_at hl 0 rfl) ?_
    refine gfX12_7 X Y (v := .ref (Am 1)) 0 rfl rfl dX12_lives_14 ?_
    refine lv_iconst (v := (5 : Int32)) hx hb dX12_lives_17 (by decide) ?_
    refine x_iald X Y 1 rfl (j := 5) rfl rfl dX12_lives_18 ?_
    refine lv_iload_n hx hb dX12_lives_19 rfl (lv_at hl 1 rfl) ?_
    obtain ⟨r_3, ho_5, hf⟩ := bd1_some hf
    refine t_i Y (bkS Y) (r_V (As := [.int (w 5), .int x1]) (rest := []) X (c_preS X Y) (cM_isAlive ho_5) (cwX12_166 X (by decide)) (va_recv X.K Y.1 (q := (RX12, TX12, 15)) (q0 := 0) (ci := 12) rfl rfl) rfl hl.1 (Nat.le_of_ble_eq_true rfl) rfl dX12_lives_20 ⟨Nat.zero_le _, Nat.zero_le _⟩) (fun H locs Y => ?_)
    refine lv_if_eq (tgt := 30) hx hb dX12_lives_23 (by decide) (fun c_4 => ?_) (fun c_4 => ?_)
    · have hf := ite_t hf c_4
      refine lv_iconst (v := (0 : Int32)) hx hb dX12_lives_30 (by decide) ?_
      obtain ⟨e90, e91⟩ := sj2 hf
      subst e90
      subst e91
      exact x_iret X Y dX12_lives_31
    · have hf := ite_f hf c_4
      refine lv_iconst (v := (1 : Int32)) hx hb dX12_lives_26 (by decide) ?_
      refine lv_goto (tgt := 31) hx hb dX12_lives_27 (by decide) ?_
      obtain ⟨e90, e91⟩ := sj2 hf
      subst e90
      subst e91
      exact x_iret X Y dX12_lives_31
  · have hf := ite_t hf c_2
    refine lv_aload_n hx hb dX12_lives_7 rfl (lv_at hl 0 rfl) ?_
    obtain ⟨r_6, rf_7, ho_8, hf⟩ := bd2_some hf
    refine t_i Y (bkS Y) (r_V (As := []) (rest := []) X (c_preS X Y) (cM_bad ho_8) (cwX12_44 X (by decide)) (va_recv X.K Y.1 (q := (RX12, TX12, 15)) (q0 := 0) (ci := 12) rfl rfl) rfl hl.1 (Nat.le_of_ble_eq_true rfl) rfl dX12_lives_8 ⟨Nat.zero_le _, Nat.zero_le _⟩) (fun H locs Y => ?_)
    obtain ⟨e90, e91⟩ := sj2 hf
    subst e90
    subst e91
    exact x_iret X Y dX12_lives_11
theorem cM_lives {l : Launch} {Γ : Gm} {Am : Nat → Nat} {w : Nat → Int32} {kp : Nat → Int32} {tx : Nat → Int32} {td : Int32} {rf : Nat → Int32} {fa : Int64} {fb : Int64} {ap : Int32} {sp : Int32} {iw : Int32} {ig : Int32} {nu : Nat → Int32} {lst : Int32} {lwo : Int32} {hh : Int64} {rf_z : Nat → Int32} {r0 : Int32} {x1 : Int32} (h : M_lives x1 w rf = some (r0, rf_z)) : CI l Γ yX12_lives (Cond.code yX12_lives cX12_lives 2 (some .int) :: GW) rmM_lives [.ref (Am 0), .int x1] (WM Γ Am w kp tx td rf fa fb ap sp iw ig nu lst lwo hh) (WM Γ Am w kp tx td rf_z fa fb ap sp iw ig nu lst lwo hh) r0 := ofBody (Qc := QcI Γ _ _ r0) (by decide) (Nat.le_of_ble_eq_true rfl) (fun p e s m below meth c ls _ X Y hl => bM_lives_e X h Y hl)
theorem dmX12_lossOfV : yX12_lossOf.cls = RX12 ∧ yX12_lossOf.cls ≠ "java/lang/invoke/MethodHandle" ∧ yX12_lossOf.cls ≠ "java/lang/invoke/VarHandle" ∧ (parseMethodDescriptor yX12_lossOf.desc).map (fun d => d.parameters.length) = some 1 := by decide +kernel
theorem cwX12_169 (X : Cx Γ p s m args meth c RX12 cc nL ret w0) (hR : rmM_lossOf.frames + 1 ≤ R.frames ∧ 8 + (4 + 11) + rmM_lossOf.locals ≤ R.locals) : CallW R s args RX12 RX12 169 yX12_lossOf cX12_lossOf 4 (some .int) (Cond.code yX12_lossOf cX12_lossOf 4 (some .int) :: GW) rmM_lossOf 0 0 1 := cw_V X kw128 kw129 kw130 kw4 kw131 dmX12_lossOfV rfl rfl hR
theorem dmX12_bearsV : yX12_bears.cls = RX12 ∧ yX12_bears.cls ≠ "java/lang/invoke/MethodHandle" ∧ yX12_bears.cls ≠ "java/lang/invoke/VarHandle" ∧ (parseMethodDescriptor yX12_bears.desc).map (fun d => d.parameters.length) = some 1 := by decide +kernel
theorem cwX12_172 (X : Cx Γ p s m args meth c RX12 cc nL ret w0) (hR : rmM_bears.frames + 1 ≤ R.frames ∧ 8 + (4 + 11) + rmM_bears.locals ≤ R.locals) : CallW R s args RX12 RX12 172 yX12_bears cX12_bears 4 (some .int) (Cond.code yX12_bears cX12_bears 4 (some .int) :: GW) rmM_bears 0 0 1 := cw_V X kw132 kw133 kw134 kw4 kw135 dmX12_bearsV rfl rfl hR
theorem dmX12_worthOfV : yX12_worthOf.cls = RX12 ∧ yX12_worthOf.cls ≠ "java/lang/invoke/MethodHandle" ∧ yX12_worthOf.cls ≠ "java/lang/invoke/VarHandle" ∧ (parseMethodDescriptor yX12_worthOf.desc).map (fun d => d.parameters.length) = some 1 := by decide +kernel
theorem cwX12_175 (X : Cx Γ p s m args meth c RX12 cc nL ret w0) (hR : rmM_worthOf.frames + 1 ≤ R.frames ∧ 8 + (4 + 11) + rmM_worthOf.locals ≤ R.locals) : CallW R s args RX12 RX12 175 yX12_worthOf cX12_worthOf 4 (some .int) (Cond.code yX12_worthOf cX12_worthOf 4 (some .int) :: GW) rmM_worthOf 0 0 1 := cw_V X kw136 kw137 kw138 kw4 kw139 dmX12_worthOfV rfl rfl hR
def rmM_now : Room := { frames := 3, cells := 0, slots := 0, locals := 65 }
def M_now (x1 : Int32) (w : Nat → Int32) (rf : Nat → Int32) : Option (Int32 × (Nat → Int32)) := if x1 = (0 : Int32) then (bd1 (M_lossOf (-1 : Int32) w) (fun (r_2 : Int32) => some (r_2, rf))) else (if x1 = (1 : Int32) then (bd1 (M_bears (-1 : Int32) w) (fun (r_5 : Int32) => some (r_5, rf))) else (if x1 = (2 : Int32) then (bd1 (M_heavyOf (w 5) w) (fun (r_8 : Int32) => some (r_8, rf))) else (if x1 = (3 : Int32) then (bd1 (M_worthOf (w 5) w) (fun (r_11 : Int32) => some (r_11, rf))) else (bd2 (M_bad rf) (fun (r_13 : Int32) (rf_14 : Nat → Int32) => some (r_13, rf_14))))))
set_option maxHeartbeats 4000000 in
set_option maxRecDepth 100000 in
theorem bM_now_e {Am : Nat → Nat} {w : Nat → Int32} {kp : Nat → Int32} {tx : Nat → Int32} {td : Int32} {rf : Nat → Int32} {fa : Int64} {fb : Int64} {ap : Int32} {sp : Int32} {iw : Int32} {ig : Int32} {nu : Nat → Int32} {lst : Int32} {lwo : Int32} {hh : Int64} {rf_z : Nat → Int32} {r0 : Int32} {x1 : Int32} (X : Cx Γ p s m args meth c RX12 cX12_now 2 (some .int) w0) (hf : M_now x1 w rf = some (r0, rf_z)) (Y : Wd Γ w0 s (WM Γ Am w kp tx td rf fa fb ap sp iw ig nu lst lwo hh) H locs) (hl : lv_has ls 2 [(0, .ref (Am 0)), (1, .int x1)]) : W p l e rmM_now s m args below meth c H locs 0 0 (EI Γ below args s w0 (WM Γ Am w kp tx td rf_z fa fb ap sp iw ig nu lst lwo hh) r0) (F0 m 0 ls []) := by
  have hx := X.1
  have hb := X.2.1
  refine lv_iload_n hx hb dX12_now_0 rfl (lv_at hl 1 rfl) ?_
  by_cases c_1 : x1 = (0 : Int32)
  · have hf := ite_t hf c_1
    have et : (x1).toInt = 0 := by rw [c_1]; rfl
    refine lv_tableIn (tgt := 32) (off := 31) hx hb dX12_now_1 (by rw [et]; decide) (by rw [et]; decide) (by rw [et]; rfl) (by decide) ?_
    refine lv_aload_n hx hb dX12_now_32 rfl (lv_at hl 0 rfl) ?_
    refine lv_iconst (v := (-1 : Int32)) hx hb dX12_now_33 (by decide) ?_
    obtain ⟨r_2, ho_3, hf⟩ := bd1_some hf
    refine t_i Y (bkS Y) (r_V (As := [.int (-1 : Int32)]) (rest := []) X (c_preS X Y) (cM_lossOf ho_3) (cwX12_169 X (by decide)) (va_recv X.K Y.1 (q := (RX12, TX12, 15)) (q0 := 0) (ci := 12) rfl rfl) rfl hl.1 (Nat.le_of_ble_eq_true rfl) rfl dX12_now_34 ⟨Nat.zero_le _, Nat.zero_le _⟩) (fun H locs Y => ?_)
    obtain ⟨e90, e91⟩ := sj2 hf
    subst e90
    subst e91
    exact x_iret X Y dX12_now_37
  have hf := ite_f hf c_1
  by_cases c_4 : x1 = (1 : Int32)
  · have hf := ite_t hf c_4
    have et : (x1).toInt = 1 := by rw [c_4]; rfl
    refine lv_tableIn (tgt := 38) (off := 37) hx hb dX12_now_1 (by rw [et]; decide) (by rw [et]; decide) (by rw [et]; rfl) (by decide) ?_
    refine lv_aload_n hx hb dX12_now_38 rfl (lv_at hl 0 rfl) ?_
    refine lv_iconst (v := (-1 : Int32)) hx hb dX12_now_39 (by decide) ?_
    obtain ⟨r_5, ho_6, hf⟩ := bd1_some hf
    refine t_i Y (bkS Y) (r_V (As := [.int (-1 : Int32)]) (rest := []) X (c_preS X Y) (cM_bears ho_6) (cwX12_172 X (by decide)) (va_recv X.K Y.1 (q := (RX12, TX12, 15)) (q0 := 0) (ci := 12) rfl rfl) rfl hl.1 (Nat.le_of_ble_eq_true rfl) rfl dX12_now_40 ⟨Nat.zero_le _, Nat.zero_le _⟩) (fun H locs Y => ?_)
    obtain ⟨e90, e91⟩ := sj2 hf
    subst e90
    subst e91
    exact x_iret X Y dX12_now_43
  have hf := ite_f hf c_4
  by_cases c_7 : x1 = (2 : Int32)
  · have hf := ite_t hf c_7
    have et : (x1).toInt = 2 := by rw [c_7]; rfl
    refine lv_tableIn (tgt := 44) (off := 43) hx hb dX12_now_1 (by rw [et]; decide) (by rw [et]; decide) (by rw [et]; rfl) (by decide) ?_
    refine lv_aload_n hx hb dX12_now_44 rfl (lv_at hl 0 rfl) ?_
    refine lv_aload_n hx hb dX12_now_45 rfl (lv_at hl 0 rfl) ?_
    refine gfX12_7 X Y (v := .ref (Am 1)) 0 rfl rfl dX12_now_46 ?_
    refine lv_iconst (v := (5 : Int32)) hx hb dX12_now_49 (by decide) ?_
    refine x_iald X Y 1 rfl (j := 5) rfl rfl dX12_now_50 ?_
    obtain ⟨r_8, ho_9, hf⟩ := bd1_some hf
    refine t_i Y (bkS Y) (r_V (As := [.int (w 5)]) (rest := []) X (c_preS X Y) (cM_heavyOf ho_9) (cwX12_160 X (by decide)) (va_recv X.K Y.1 (q := (RX12, TX12, 15)) (q0 := 0) (ci := 12) rfl rfl) rfl hl.1 (Nat.le_of_ble_eq_true rfl) rfl dX12_now_51 ⟨Nat.zero_le _, Nat.zero_le _⟩) (fun H locs Y => ?_)
    obtain ⟨e90, e91⟩ := sj2 hf
    subst e90
    subst e91
    exact x_iret X Y dX12_now_54
  have hf := ite_f hf c_7
  by_cases c_10 : x1 = (3 : Int32)
  · have hf := ite_t hf c_10
    have et : (x1).toInt = 3 := by rw [c_10]; rfl
    refine lv_tableIn (tgt := 55) (off := 54) hx hb dX12_now_1 (by rw [et]; decide) (by rw [et]; decide) (by rw [et]; rfl) (by decide) ?_
    refine lv_aload_n hx hb dX12_now_55 rfl (lv_at hl 0 rfl) ?_
    refine lv_aload_n hx hb dX12_now_56 rfl (lv_at hl 0 rfl) ?_
    refine gfX12_7 X Y (v := .ref (Am 1)) 0 rfl rfl dX12_now_57 ?_
    refine lv_iconst (v := (5 : Int32)) hx hb dX12_now_60 (by decide) ?_
    refine x_iald X Y 1 rfl (j := 5) rfl rfl dX12_now_61 ?_
    obtain ⟨r_11, ho_12, hf⟩ := bd1_some hf
    refine t_i Y (bkS Y) (r_V (As := [.int (w 5)]) (rest := []) X (c_preS X Y) (cM_worthOf ho_12) (cwX12_175 X (by decide)) (va_recv X.K Y.1 (q := (RX12, TX12, 15)) (q0 := 0) (ci := 12) rfl rfl) rfl hl.1 (Nat.le_of_ble_eq_true rfl) rfl dX12_now_62 ⟨Nat.zero_le _, Nat.zero_le _⟩) (fun H locs Y => ?_)
    obtain ⟨e90, e91⟩ := sj2 hf
    subst e90
    subst e91
    exact x_iret X Y dX12_now_65
  have hf := ite_f hf c_10
  have hout : (x1).toInt < 0 ∨ 3 < (x1).toInt := by
    have qc_1 := lv_neT c_1 (show ((0 : Int32)).toInt = 0 by rfl)
    have qc_4 := lv_neT c_4 (show ((1 : Int32)).toInt = 1 by rfl)
    have qc_7 := lv_neT c_7 (show ((2 : Int32)).toInt = 2 by rfl)
    have qc_10 := lv_neT c_10 (show ((3 : Int32)).toInt = 3 by rfl)
    omega
  refine lv_tableOut (tgt := 66) hx hb dX12_now_1 hout (by decide) ?_
  refine lv_aload_n hx hb dX12_now_66 rfl (lv_at hl 0 rfl) ?_
  obtain ⟨r_13, rf_14, ho_15, hf⟩ := bd2_some hf
  refine t_i Y (bkS Y) (r_V (As := []) (rest := []) X (c_preS X Y) (cM_bad ho_15) (cwX12_44 X (by decide)) (va_recv X.K Y.1 (q := (RX12, TX12, 15)) (q0 := 0) (ci := 12) rfl rfl) rfl hl.1 (Nat.le_of_ble_eq_true rfl) rfl dX12_now_67 ⟨Nat.zero_le _, Nat.zero_le _⟩) (fun H locs Y => ?_)
  obtain ⟨e90, e91⟩ := sj2 hf
  subst e90
  subst e91
  exact x_iret X Y dX12_now_70
theorem cM_now {l : Launch} {Γ : Gm} {Am : Nat → Nat} {w : Nat → Int32} {kp : Nat → Int32} {tx : Nat → Int32} {td : Int32} {rf : Nat → Int32} {fa : Int64} {fb : Int64} {ap : Int32} {sp : Int32} {iw : Int32} {ig : Int32} {nu : Nat → Int32} {lst : Int32} {lwo : Int32} {hh : Int64} {rf_z : Nat → Int32} {r0 : Int32} {x1 : Int32} (h : M_now x1 w rf = some (r0, rf_z)) : CI l Γ yX12_now (Cond.code yX12_now cX12_now 2 (some .int) :: GW) rmM_now [.ref (Am 0), .int x1] (WM Γ Am w kp tx td rf fa fb ap sp iw ig nu lst lwo hh) (WM Γ Am w kp tx td rf_z fa fb ap sp iw ig nu lst lwo hh) r0 := ofBody (Qc := QcI Γ _ _ r0) (by decide) (Nat.le_of_ble_eq_true rfl) (fun p e s m below meth c ls _ X Y hl => bM_now_e X h Y hl)
theorem pfX12_178 (X : Cx Γ p s m args meth c RX12 cc nL ret w0) (Y : Wd Γ w0 s ws H locs) (q0 : Nat) {fs : List Value} (he : ws[q0]? = some (a, .inr (12, fs))) {v : Value} (hn : narrow (tyX12 5) v = v) (hfit : fits (tyX12 5) v = true) (hl : 5 < fs.length) (hw : ws.set q0 (a, .inr (12, fs.set 5 v)) = ws') (hdg : decode cc pc = .ok (.putfield 178, 3)) (kk : ∀ (H1 : Heap) (locs1 : List Loc), Wd Γ w0 s ws' H1 locs1 → W p l e R s m args below meth c H1 locs1 cells slots Q (F0 m (pc + 3) ls rest)) : W p l e R s m args below meth c H locs cells slots Q (F0 m pc ls (v :: .ref a :: rest)) := x_put X Y iX12 tyX12 tyX12_ok nmX12 rfl 5 (by decide) rfl kw140 rfl q0 he hn hfit hl hw hdg kk
theorem pfX12_23 (X : Cx Γ p s m args meth c RX12 cc nL ret w0) (Y : Wd Γ w0 s ws H locs) (q0 : Nat) {fs : List Value} (he : ws[q0]? = some (a, .inr (12, fs))) {v : Value} (hn : narrow (tyX12 6) v = v) (hfit : fits (tyX12 6) v = true) (hl : 6 < fs.length) (hw : ws.set q0 (a, .inr (12, fs.set 6 v)) = ws') (hdg : decode cc pc = .ok (.putfield 23, 3)) (kk : ∀ (H1 : Heap) (locs1 : List Loc), Wd Γ w0 s ws' H1 locs1 → W p l e R s m args below meth c H1 locs1 cells slots Q (F0 m (pc + 3) ls rest)) : W p l e R s m args below meth c H locs cells slots Q (F0 m pc ls (v :: .ref a :: rest)) := x_put X Y iX12 tyX12 tyX12_ok nmX12 rfl 6 (by decide) rfl kw141 rfl q0 he hn hfit hl hw hdg kk
def rmM_tellsPart : Room := { frames := 0, cells := 0, slots := 0, locals := 0 }
def M_tellsPart_17 (rc17 : Int64 → Int64 → Int64 → Int64 → Int64 → Int64 → Option (Int32 × Int64 × Int64)) (x1 : Int64) (x3 : Int64) (x5 : Int64) (x7 : Int64) (fa : Int64) (fb : Int64) : Option (Int32 × Int64 × Int64) := if (lg_cmp x7 (0 : Int64)) = 0 then (ck (decide (¬ x5 = 0)) (bnd (x1 / x5) (fun (fa_3 : Int64) => ck (decide (¬ x5 = 0)) (bnd (x3 / x5) (fun (fb_5 : Int64) => some ((1 : Int32), fa_3, fb_5)))))) else (ck (decide (¬ x7 = 0)) (bnd (x5 - x5 / x7 * x7) (fun (x9_7 : Int64) => rc17 x1 x3 x7 x9_7 fa fb)))
set_option maxHeartbeats 4000000 in
set_option maxRecDepth 100000 in
theorem bM_tellsPart_17 {Am : Nat → Nat} {w : Nat → Int32} {kp : Nat → Int32} {tx : Nat → Int32} {td : Int32} {rf : Nat → Int32} {fa : Int64} {fb : Int64} {ap : Int32} {sp : Int32} {iw : Int32} {ig : Int32} {nu : Nat → Int32} {lst : Int32} {lwo : Int32} {hh : Int64} {fa_z : Int64} {fb_z : Int64} {r0 : Int32} {x1 : Int64} {x3 : Int64} {x5 : Int64} {x7 : Int64} {rc17 : Int64 → Int64 → Int64 → Int64 → Int64 → Int64 → Option (Int32 × Int64 × Int64)} (X : Cx Γ p s m args meth c RX12 cX12_tellsPart 11 (some .int) w0) (h17 : ∀ (x1 : Int64) (x3 : Int64) (x5 : Int64) (x7 : Int64) (fa : Int64) (fb : Int64), rc17 x1 x3 x5 x7 fa fb = some (r0, fa_z, fb_z) → ∀ (H : Heap) (locs : List Loc) (ls : Array Slot), Wd Γ w0 s (WM Γ Am w kp tx td rf fa fb ap sp iw ig nu lst lwo hh) H locs → lv_has ls 11 [(0, .ref (Am 0)), (1, .long x1), (3, .long x3), (5, .long x5), (7, .long x7)] → W p l e rmM_tellsPart s m args below meth c H locs 0 0 (EI Γ below args s w0 (WM Γ Am w kp tx td rf fa_z fb_z ap sp iw ig nu lst lwo hh) r0) (F0 m 17 ls [])) (hf : M_tellsPart_17 rc17 x1 x3 x5 x7 fa fb = some (r0, fa_z, fb_z)) (Y : Wd Γ w0 s (WM Γ Am w kp tx td rf fa fb ap sp iw ig nu lst lwo hh) H locs) (hl : lv_has ls 11 [(0, .ref (Am 0)), (1, .long x1), (3, .long x3), (5, .long x5), (7, .long x7)]) : W p l e rmM_tellsPart s m args below meth c H locs 0 0 (EI Γ below args s w0 (WM Γ Am w kp tx td rf fa_z fb_z ap sp iw ig nu lst lwo hh) r0) (F0 m 17 ls []) := by
  have hx := X.1
  have hb := X.2.1
  refine lv_lload hx hb dX12_tellsPart_17 (lv_at hl 4 rfl) ?_
  refine lv_lconst (v := (0 : Int64)) hx hb dX12_tellsPart_19 (by decide) ?_
  refine W.lcmp hx hb dX12_tellsPart_20 ?_
  refine lv_if_eq (tgt := 42) hx hb dX12_tellsPart_21 (by decide) (fun c_1 => ?_) (fun c_1 => ?_)
  · have hf := ite_t hf c_1
    refine lv_aload_n hx hb dX12_tellsPart_42 rfl (lv_at hl 0 rfl) ?_
    refine lv_lload_n hx hb dX12_tellsPart_43 rfl (lv_at hl 1 rfl) ?_
    refine lv_lload hx hb dX12_tellsPart_44 (lv_at hl 3 rfl) ?_
    obtain ⟨hz_2, hf⟩ := ck_some hf
    refine lv_ldiv hx hb dX12_tellsPart_46 (of_decide_eq_true hz_2) ?_
    refine lv_topl (fun fa_3 e_fa_3 => ?_)
    have hf := bnd_eq hf e_fa_3
    refine pfX12_178 X Y 0 rfl rfl rfl (Nat.le_of_ble_eq_true rfl) (ws' := (WM Γ Am w kp tx td rf fa_3 fb ap sp iw ig nu lst lwo hh)) rfl dX12_tellsPart_47 (fun H locs Y => ?_)
    refine lv_aload_n hx hb dX12_tellsPart_50 rfl (lv_at hl 0 rfl) ?_
    refine lv_lload_n hx hb dX12_tellsPart_51 rfl (lv_at hl 2 rfl) ?_
    refine lv_lload hx hb dX12_tellsPart_52 (lv_at hl 3 rfl) ?_
    obtain ⟨hz_4, hf⟩ := ck_some hf
    refine lv_ldiv hx hb dX12_tellsPart_54 (of_decide_eq_true hz_4) ?_
    refine lv_topl (fun fb_5 e_fb_5 => ?_)
    have hf := bnd_eq hf e_fb_5
    refine pfX12_23 X Y 0 rfl rfl rfl (Nat.le_of_ble_eq_true rfl) (ws' := (WM Γ Am w kp tx td rf fa_3 fb_5 ap sp iw ig nu lst lwo hh)) rfl dX12_tellsPart_55 (fun H locs Y => ?_)
    refine lv_iconst (v := (1 : Int32)) hx hb dX12_tellsPart_58 (by decide) ?_
    obtain ⟨e90, e91, e92⟩ := sj3 hf
    subst e90
    subst e91
    subst e92
    exact x_iret X Y dX12_tellsPart_59
  · have hf := ite_f hf c_1
    refine lv_lload hx hb dX12_tellsPart_24 (lv_at hl 3 rfl) ?_
    refine lv_lload hx hb dX12_tellsPart_26 (lv_at hl 4 rfl) ?_
    obtain ⟨hz_6, hf⟩ := ck_some hf
    refine lv_lrem hx hb dX12_tellsPart_28 (of_decide_eq_true hz_6) ?_
    refine lv_topl (fun x9_7 e_x9_7 => ?_)
    have hf := bnd_eq hf e_x9_7
    refine lv_lstore (lv' := [(9, .long x9_7), (0, .ref (Am 0)), (1, .long x1), (3, .long x3), (5, .long x5), (7, .long x7)]) hx hb dX12_tellsPart_29 hl (by decide) rfl (fun ls hl => ?_)
    refine lv_lload hx hb dX12_tellsPart_31 (lv_at hl 5 rfl) ?_
    refine lv_lstore (lv' := [(5, .long x7), (9, .long x9_7), (0, .ref (Am 0)), (1, .long x1), (3, .long x3), (7, .long x7)]) hx hb dX12_tellsPart_33 hl (by decide) rfl (fun ls hl => ?_)
    refine lv_lload hx hb dX12_tellsPart_35 (lv_at hl 1 rfl) ?_
    refine lv_lstore (lv' := [(7, .long x9_7), (5, .long x7), (9, .long x9_7), (0, .ref (Am 0)), (1, .long x1), (3, .long x3)]) hx hb dX12_tellsPart_37 hl (by decide) rfl (fun ls hl => ?_)
    refine lv_goto (tgt := 17) hx hb dX12_tellsPart_39 (by decide) ?_
    exact h17 _ _ _ _ _ _ hf _ _ _ Y (lv_sub hl [3, 4, 5, 1, 0] rfl)
def M_tellsPart_L17 : Nat → Int64 → Int64 → Int64 → Int64 → Int64 → Int64 → Option (Int32 × Int64 × Int64)
  | 0, _, _, _, _, _, _ => none
  | n + 1, x1, x3, x5, x7, fa, fb => M_tellsPart_17 (M_tellsPart_L17 n) x1 x3 x5 x7 fa fb
theorem lM_tellsPart_17 {Am : Nat → Nat} {w : Nat → Int32} {kp : Nat → Int32} {tx : Nat → Int32} {td : Int32} {rf : Nat → Int32} {ap : Int32} {sp : Int32} {iw : Int32} {ig : Int32} {nu : Nat → Int32} {lst : Int32} {lwo : Int32} {hh : Int64} {fa_z : Int64} {fb_z : Int64} {r0 : Int32} (X : Cx Γ p s m args meth c RX12 cX12_tellsPart 11 (some .int) w0) : ∀ (n : Nat) (x1 : Int64) (x3 : Int64) (x5 : Int64) (x7 : Int64) (fa : Int64) (fb : Int64), M_tellsPart_L17 n x1 x3 x5 x7 fa fb = some (r0, fa_z, fb_z) → ∀ (H : Heap) (locs : List Loc) (ls : Array Slot), Wd Γ w0 s (WM Γ Am w kp tx td rf fa fb ap sp iw ig nu lst lwo hh) H locs → lv_has ls 11 [(0, .ref (Am 0)), (1, .long x1), (3, .long x3), (5, .long x5), (7, .long x7)] → W p l e rmM_tellsPart s m args below meth c H locs 0 0 (EI Γ below args s w0 (WM Γ Am w kp tx td rf fa_z fb_z ap sp iw ig nu lst lwo hh) r0) (F0 m 17 ls []) := by
  intro n
  induction n with
  | zero => intro x1 x3 x5 x7 fa fb hf; cases hf
  | succ n ih => intro x1 x3 x5 x7 fa fb hf H locs ls Y hl; exact bM_tellsPart_17 X ih hf Y hl
def M_tellsPart (x1 : Int64) (x3 : Int64) (fa : Int64) (fb : Int64) : Option (Int32 × Int64 × Int64) := if 0 ≤ (lg_cmp x1 (0 : Int64)) then (M_tellsPart_L17 FU x1 x3 x1 x3 fa fb) else (bnd (-x1) (fun (x5_2 : Int64) => M_tellsPart_L17 FU x1 x3 x5_2 x3 fa fb))
set_option maxHeartbeats 4000000 in
set_option maxRecDepth 100000 in
theorem bM_tellsPart_e {Am : Nat → Nat} {w : Nat → Int32} {kp : Nat → Int32} {tx : Nat → Int32} {td : Int32} {rf : Nat → Int32} {fa : Int64} {fb : Int64} {ap : Int32} {sp : Int32} {iw : Int32} {ig : Int32} {nu : Nat → Int32} {lst : Int32} {lwo : Int32} {hh : Int64} {fa_z : Int64} {fb_z : Int64} {r0 : Int32} {x1 : Int64} {x3 : Int64} (X : Cx Γ p s m args meth c RX12 cX12_tellsPart 11 (some .int) w0) (hf : M_tellsPart x1 x3 fa fb = some (r0, fa_z, fb_z)) (Y : Wd Γ w0 s (WM Γ Am w kp tx td rf fa fb ap sp iw ig nu lst lwo hh) H locs) (hl : lv_has ls 11 [(0, .ref (Am 0)), (1, .long x1), (3, .long x3)]) : W p l e rmM_tellsPart s m args below meth c H locs 0 0 (EI Γ below args s w0 (WM Γ Am w kp tx td rf fa_z fb_z ap sp iw ig nu lst lwo hh) r0) (F0 m 0 ls []) := by
  have hx := X.1
  have hb := X.2.1
  refine lv_lload_n hx hb dX12_tellsPart_0 rfl (lv_at hl 1 rfl) ?_
  refine lv_lconst (v := (0 : Int64)) hx hb dX12_tellsPart_1 (by decide) ?_
  refine W.lcmp hx hb dX12_tellsPart_2 ?_
  refine lv_if_ge (tgt := 11) hx hb dX12_tellsPart_3 (by decide) (fun c_1 => ?_) (fun c_1 => ?_)
  · have hf := ite_t hf c_1
    refine lv_lload_n hx hb dX12_tellsPart_11 rfl (lv_at hl 1 rfl) ?_
    refine lv_lstore (lv' := [(5, .long x1), (0, .ref (Am 0)), (1, .long x1), (3, .long x3)]) hx hb dX12_tellsPart_12 hl (by decide) rfl (fun ls hl => ?_)
    refine lv_lload_n hx hb dX12_tellsPart_14 rfl (lv_at hl 3 rfl) ?_
    refine lv_lstore (lv' := [(7, .long x3), (5, .long x1), (0, .ref (Am 0)), (1, .long x1), (3, .long x3)]) hx hb dX12_tellsPart_15 hl (by decide) rfl (fun ls hl => ?_)
    exact lM_tellsPart_17 X _ _ _ _ _ _ _ hf _ _ _ Y (lv_sub hl [2, 3, 4, 1, 0] rfl)
  · have hf := ite_f hf c_1
    refine lv_lload_n hx hb dX12_tellsPart_6 rfl (lv_at hl 1 rfl) ?_
    refine lv_lneg hx hb dX12_tellsPart_7 ?_
    refine lv_goto (tgt := 12) hx hb dX12_tellsPart_8 (by decide) ?_
    refine lv_topl (fun x5_2 e_x5_2 => ?_)
    have hf := bnd_eq hf e_x5_2
    refine lv_lstore (lv' := [(5, .long x5_2), (0, .ref (Am 0)), (1, .long x1), (3, .long x3)]) hx hb dX12_tellsPart_12 hl (by decide) rfl (fun ls hl => ?_)
    refine lv_lload_n hx hb dX12_tellsPart_14 rfl (lv_at hl 3 rfl) ?_
    refine lv_lstore (lv' := [(7, .long x3), (5, .long x5_2), (0, .ref (Am 0)), (1, .long x1), (3, .long x3)]) hx hb dX12_tellsPart_15 hl (by decide) rfl (fun ls hl => ?_)
    exact lM_tellsPart_17 X _ _ _ _ _ _ _ hf _ _ _ Y (lv_sub hl [2, 3, 4, 1, 0] rfl)
theorem cM_tellsPart {l : Launch} {Γ : Gm} {Am : Nat → Nat} {w : Nat → Int32} {kp : Nat → Int32} {tx : Nat → Int32} {td : Int32} {rf : Nat → Int32} {fa : Int64} {fb : Int64} {ap : Int32} {sp : Int32} {iw : Int32} {ig : Int32} {nu : Nat → Int32} {lst : Int32} {lwo : Int32} {hh : Int64} {fa_z : Int64} {fb_z : Int64} {r0 : Int32} {x1 : Int64} {x3 : Int64} (h : M_tellsPart x1 x3 fa fb = some (r0, fa_z, fb_z)) : CI l Γ yX12_tellsPart (Cond.code yX12_tellsPart cX12_tellsPart 11 (some .int) :: GW) rmM_tellsPart [.ref (Am 0), .long x1, .long x3] (WM Γ Am w kp tx td rf fa fb ap sp iw ig nu lst lwo hh) (WM Γ Am w kp tx td rf fa_z fb_z ap sp iw ig nu lst lwo hh) r0 := ofBody (Qc := QcI Γ _ _ r0) (by decide) (Nat.le_of_ble_eq_true rfl) (fun p e s m below meth c ls _ X Y hl => bM_tellsPart_e X h Y hl)
def rmM_whole : Room := { frames := 2, cells := 0, slots := 0, locals := 44 }
def M_whole (w : Nat → Int32) : Option (Int32) := bd1 (M_bears (-1 : Int32) w) (fun (r_1 : Int32) => if r_1 = 0 then (some (1 : Int32)) else (some r_1))
set_option maxHeartbeats 4000000 in
set_option maxRecDepth 100000 in
theorem bM_whole_e {Am : Nat → Nat} {w : Nat → Int32} {kp : Nat → Int32} {tx : Nat → Int32} {td : Int32} {rf : Nat → Int32} {fa : Int64} {fb : Int64} {ap : Int32} {sp : Int32} {iw : Int32} {ig : Int32} {nu : Nat → Int32} {lst : Int32} {lwo : Int32} {hh : Int64} {r0 : Int32} (X : Cx Γ p s m args meth c RX12 cX12_whole 2 (some .int) w0) (hf : M_whole w = some r0) (Y : Wd Γ w0 s (WM Γ Am w kp tx td rf fa fb ap sp iw ig nu lst lwo hh) H locs) (hl : lv_has ls 2 [(0, .ref (Am 0))]) : W p l e rmM_whole s m args below meth c H locs 0 0 (EI Γ below args s w0 (WM Γ Am w kp tx td rf fa fb ap sp iw ig nu lst lwo hh) r0) (F0 m 0 ls []) := by
  have hx := X.1
  have hb := X.2.1
  refine lv_aload_n hx hb dX12_whole_0 rfl (lv_at hl 0 rfl) ?_
  refine lv_iconst (v := (-1 : Int32)) hx hb dX12_whole_1 (by decide) ?_
  obtain ⟨r_1, ho_3, hf⟩ := bd1_some hf
  refine t_i Y (bkS Y) (r_V (As := [.int (-1 : Int32)]) (rest := []) X (c_preS X Y) (cM_bears ho_3) (cwX12_172 X (by decide)) (va_recv X.K Y.1 (q := (RX12, TX12, 15)) (q0 := 0) (ci := 12) rfl rfl) rfl hl.1 (Nat.le_of_ble_eq_true rfl) rfl dX12_whole_2 ⟨Nat.zero_le _, Nat.zero_le _⟩) (fun H locs Y => ?_)
  refine lv_istore_n (lv' := [(1, .int r_1), (0, .ref (Am 0))]) hx hb dX12_whole_5 rfl hl (by decide) rfl (fun ls hl => ?_)
  refine lv_iload_n hx hb dX12_whole_6 rfl (lv_at hl 0 rfl) ?_
  refine lv_if_ne (tgt := 14) hx hb dX12_whole_7 (by decide) (fun c_2 => ?_) (fun c_2 => ?_)
  · have hf := ite_f hf c_2
    refine lv_iload_n hx hb dX12_whole_14 rfl (lv_at hl 0 rfl) ?_
    have e90 := Option.some.inj hf
    subst e90
    exact x_iret X Y dX12_whole_15
  · have hf := ite_t hf c_2
    refine lv_iconst (v := (1 : Int32)) hx hb dX12_whole_10 (by decide) ?_
    refine lv_goto (tgt := 15) hx hb dX12_whole_11 (by decide) ?_
    have e90 := Option.some.inj hf
    subst e90
    exact x_iret X Y dX12_whole_15
theorem cM_whole {l : Launch} {Γ : Gm} {Am : Nat → Nat} {w : Nat → Int32} {kp : Nat → Int32} {tx : Nat → Int32} {td : Int32} {rf : Nat → Int32} {fa : Int64} {fb : Int64} {ap : Int32} {sp : Int32} {iw : Int32} {ig : Int32} {nu : Nat → Int32} {lst : Int32} {lwo : Int32} {hh : Int64} {r0 : Int32} (h : M_whole w = some r0) : CI l Γ yX12_whole (Cond.code yX12_whole cX12_whole 2 (some .int) :: GW) rmM_whole [.ref (Am 0)] (WM Γ Am w kp tx td rf fa fb ap sp iw ig nu lst lwo hh) (WM Γ Am w kp tx td rf fa fb ap sp iw ig nu lst lwo hh) r0 := ofBody (Qc := QcI Γ _ _ r0) (by decide) (Nat.le_of_ble_eq_true rfl) (fun p e s m below meth c ls _ X Y hl => bM_whole_e X h Y hl)
theorem dmX12_tellsPartV : yX12_tellsPart.cls = RX12 ∧ yX12_tellsPart.cls ≠ "java/lang/invoke/MethodHandle" ∧ yX12_tellsPart.cls ≠ "java/lang/invoke/VarHandle" ∧ (parseMethodDescriptor yX12_tellsPart.desc).map (fun d => d.parameters.length) = some 2 := by decide +kernel
theorem cwX12_186 (X : Cx Γ p s m args meth c RX12 cc nL ret w0) (hR : rmM_tellsPart.frames + 1 ≤ R.frames ∧ 8 + (11 + 11) + rmM_tellsPart.locals ≤ R.locals) : CallW R s args RX12 RX12 186 yX12_tellsPart cX12_tellsPart 11 (some .int) (Cond.code yX12_tellsPart cX12_tellsPart 11 (some .int) :: GW) rmM_tellsPart 0 0 2 := cw_V X kw143 kw144 kw145 kw4 kw146 dmX12_tellsPartV rfl rfl hR
theorem dmX12_wholeV : yX12_whole.cls = RX12 ∧ yX12_whole.cls ≠ "java/lang/invoke/MethodHandle" ∧ yX12_whole.cls ≠ "java/lang/invoke/VarHandle" ∧ (parseMethodDescriptor yX12_whole.desc).map (fun d => d.parameters.length) = some 0 := by decide +kernel
theorem cwX12_183 (X : Cx Γ p s m args meth c RX12 cc nL ret w0) (hR : rmM_whole.frames + 1 ≤ R.frames ∧ 8 + (2 + 11) + rmM_whole.locals ≤ R.locals) : CallW R s args RX12 RX12 183 yX12_whole cX12_whole 2 (some .int) (Cond.code yX12_whole cX12_whole 2 (some .int) :: GW) rmM_whole 0 0 0 := cw_V X kw147 kw148 kw149 kw4 kw150 dmX12_wholeV rfl rfl hR
def rmM_share : Room := { frames := 3, cells := 0, slots := 0, locals := 65 }
def M_share (x1 : Int32) (w : Nat → Int32) (rf : Nat → Int32) (fa : Int64) (fb : Int64) : Option (Int32 × (Nat → Int32) × Int64 × Int64) := bd1 (M_in x1.toInt64 (0 : Int64) (4 : Int64)) (fun (r_1 : Int32) => if r_1 = 0 then (bd2 (M_bad rf) (fun (r_13 : Int32) (rf_14 : Nat → Int32) => some (r_13, rf_14, fa, fb))) else (bd1 (M_lossOf (-1 : Int32) w) (fun (r_3 : Int32) => bd1 (M_bears x1 w) (fun (r_4 : Int32) => bd1 (M_whole w) (fun (r_5 : Int32) => bd3 (M_tellsPart (r_3.toInt64 * r_4.toInt64) r_5.toInt64 fa fb) (fun (r_6 : Int32) (fa_7 : Int64) (fb_8 : Int64) => some (r_6, rf, fa_7, fb_8)))))))
set_option maxHeartbeats 4000000 in
set_option maxRecDepth 100000 in
theorem bM_share_e {Am : Nat → Nat} {w : Nat → Int32} {kp : Nat → Int32} {tx : Nat → Int32} {td : Int32} {rf : Nat → Int32} {fa : Int64} {fb : Int64} {ap : Int32} {sp : Int32} {iw : Int32} {ig : Int32} {nu : Nat → Int32} {lst : Int32} {lwo : Int32} {hh : Int64} {rf_z : Nat → Int32} {fa_z : Int64} {fb_z : Int64} {r0 : Int32} {x1 : Int32} (X : Cx Γ p s m args meth c RX12 cX12_share 2 (some .int) w0) (hf : M_share x1 w rf fa fb = some (r0, rf_z, fa_z, fb_z)) (Y : Wd Γ w0 s (WM Γ Am w kp tx td rf fa fb ap sp iw ig nu lst lwo hh) H locs) (hl : lv_has ls 2 [(0, .ref (Am 0)), (1, .int x1)]) : W p l e rmM_share s m args below meth c H locs 0 0 (EI Γ below args s w0 (WM Γ Am w kp tx td rf_z fa_z fb_z ap sp iw ig nu lst lwo hh) r0) (F0 m 0 ls []) := by
  have hx := X.1
  have hb := X.2.1
  refine lv_iload_n hx hb dX12_share_0 rfl (lv_at hl 1 rfl) ?_
  refine lv_i2l (v := x1.toInt64) hx hb dX12_share_1 rfl ?_
  refine lv_lconst (v := (0 : Int64)) hx hb dX12_share_2 (by decide) ?_
  refine lv_ldc2 (v := (4 : Int64)) hx hb X.2.2.2.1 (X.2.2.2.2.1 _ kw142) dX12_share_3 ?_
  obtain ⟨r_1, ho_16, hf⟩ := bd1_some hf
  refine t_i Y (bk0 Y) (r_S (As := [.long x1.toInt64, .long (0 : Int64), .long (4 : Int64)]) (rest := []) X (c_pre0 X Y) (cM_in ho_16) (cwX12_34 X (by decide)) rfl hl.1 (Nat.le_of_ble_eq_true rfl) rfl dX12_share_6 ⟨Nat.zero_le _, Nat.zero_le _⟩) (fun H locs Y => ?_)
  refine lv_if_ne (tgt := 17) hx hb dX12_share_9 (by decide) (fun c_2 => ?_) (fun c_2 => ?_)
  · have hf := ite_f hf c_2
    refine lv_aload_n hx hb dX12_share_17 rfl (lv_at hl 0 rfl) ?_
    refine lv_aload_n hx hb dX12_share_18 rfl (lv_at hl 0 rfl) ?_
    refine lv_iconst (v := (-1 : Int32)) hx hb dX12_share_19 (by decide) ?_
    obtain ⟨r_3, ho_12, hf⟩ := bd1_some hf
    refine t_i Y (bkS Y) (r_V (As := [.int (-1 : Int32)]) (rest := [.ref (Am 0)]) X (c_preS X Y) (cM_lossOf ho_12) (cwX12_169 X (by decide)) (va_recv X.K Y.1 (q := (RX12, TX12, 15)) (q0 := 0) (ci := 12) rfl rfl) rfl hl.1 (Nat.le_of_ble_eq_true rfl) rfl dX12_share_20 ⟨Nat.zero_le _, Nat.zero_le _⟩) (fun H locs Y => ?_)
    refine lv_i2l (v := r_3.toInt64) hx hb dX12_share_23 rfl ?_
    refine lv_aload_n hx hb dX12_share_24 rfl (lv_at hl 0 rfl) ?_
    refine lv_iload_n hx hb dX12_share_25 rfl (lv_at hl 1 rfl) ?_
    obtain ⟨r_4, ho_11, hf⟩ := bd1_some hf
    refine t_i Y (bkS Y) (r_V (As := [.int x1]) (rest := [.long r_3.toInt64, .ref (Am 0)]) X (c_preS X Y) (cM_bears ho_11) (cwX12_172 X (by decide)) (va_recv X.K Y.1 (q := (RX12, TX12, 15)) (q0 := 0) (ci := 12) rfl rfl) rfl hl.1 (Nat.le_of_ble_eq_true rfl) rfl dX12_share_26 ⟨Nat.zero_le _, Nat.zero_le _⟩) (fun H locs Y => ?_)
    refine lv_i2l (v := r_4.toInt64) hx hb dX12_share_29 rfl ?_
    refine lv_lmul hx hb dX12_share_30 ?_
    refine lv_aload_n hx hb dX12_share_31 rfl (lv_at hl 0 rfl) ?_
    obtain ⟨r_5, ho_10, hf⟩ := bd1_some hf
    refine t_i Y (bkS Y) (r_V (As := []) (rest := [.long (r_3.toInt64 * r_4.toInt64), .ref (Am 0)]) X (c_preS X Y) (cM_whole ho_10) (cwX12_183 X (by decide)) (va_recv X.K Y.1 (q := (RX12, TX12, 15)) (q0 := 0) (ci := 12) rfl rfl) rfl hl.1 (Nat.le_of_ble_eq_true rfl) rfl dX12_share_32 ⟨Nat.zero_le _, Nat.zero_le _⟩) (fun H locs Y => ?_)
    refine lv_i2l (v := r_5.toInt64) hx hb dX12_share_35 rfl ?_
    obtain ⟨r_6, fa_7, fb_8, ho_9, hf⟩ := bd3_some hf
    refine t_i Y (bkS Y) (r_V (As := [.long (r_3.toInt64 * r_4.toInt64), .long r_5.toInt64]) (rest := []) X (c_preS X Y) (cM_tellsPart ho_9) (cwX12_186 X (by decide)) (va_recv X.K Y.1 (q := (RX12, TX12, 15)) (q0 := 0) (ci := 12) rfl rfl) rfl hl.1 (Nat.le_of_ble_eq_true rfl) rfl dX12_share_36 ⟨Nat.zero_le _, Nat.zero_le _⟩) (fun H locs Y => ?_)
    obtain ⟨e90, e91, e92, e93⟩ := sj4 hf
    subst e90
    subst e91
    subst e92
    subst e93
    exact x_iret X Y dX12_share_39
  · have hf := ite_t hf c_2
    refine lv_aload_n hx hb dX12_share_12 rfl (lv_at hl 0 rfl) ?_
    obtain ⟨r_13, rf_14, ho_15, hf⟩ := bd2_some hf
    refine t_i Y (bkS Y) (r_V (As := []) (rest := []) X (c_preS X Y) (cM_bad ho_15) (cwX12_44 X (by decide)) (va_recv X.K Y.1 (q := (RX12, TX12, 15)) (q0 := 0) (ci := 12) rfl rfl) rfl hl.1 (Nat.le_of_ble_eq_true rfl) rfl dX12_share_13 ⟨Nat.zero_le _, Nat.zero_le _⟩) (fun H locs Y => ?_)
    obtain ⟨e90, e91, e92, e93⟩ := sj4 hf
    subst e90
    subst e91
    subst e92
    subst e93
    exact x_iret X Y dX12_share_16
theorem cM_share {l : Launch} {Γ : Gm} {Am : Nat → Nat} {w : Nat → Int32} {kp : Nat → Int32} {tx : Nat → Int32} {td : Int32} {rf : Nat → Int32} {fa : Int64} {fb : Int64} {ap : Int32} {sp : Int32} {iw : Int32} {ig : Int32} {nu : Nat → Int32} {lst : Int32} {lwo : Int32} {hh : Int64} {rf_z : Nat → Int32} {fa_z : Int64} {fb_z : Int64} {r0 : Int32} {x1 : Int32} (h : M_share x1 w rf fa fb = some (r0, rf_z, fa_z, fb_z)) : CI l Γ yX12_share (Cond.code yX12_share cX12_share 2 (some .int) :: GW) rmM_share [.ref (Am 0), .int x1] (WM Γ Am w kp tx td rf fa fb ap sp iw ig nu lst lwo hh) (WM Γ Am w kp tx td rf_z fa_z fb_z ap sp iw ig nu lst lwo hh) r0 := ofBody (Qc := QcI Γ _ _ r0) (by decide) (Nat.le_of_ble_eq_true rfl) (fun p e s m below meth c ls _ X Y hl => bM_share_e X h Y hl)
def rmM_netOf : Room := { frames := 3, cells := 0, slots := 0, locals := 65 }
def M_netOf (x1 : Int32) (w : Nat → Int32) : Option (Int64) := bd1 (M_lossOf (-1 : Int32) w) (fun (r_1 : Int32) => bd1 (M_bears x1 w) (fun (r_2 : Int32) => bd1 (M_lossOf x1 w) (fun (r_3 : Int32) => bd1 (M_whole w) (fun (r_4 : Int32) => some ((r_1.toInt64 * r_2.toInt64) - (r_3.toInt64 * r_4.toInt64))))))
set_option maxHeartbeats 4000000 in
set_option maxRecDepth 100000 in
theorem bM_netOf_e {Am : Nat → Nat} {w : Nat → Int32} {kp : Nat → Int32} {tx : Nat → Int32} {td : Int32} {rf : Nat → Int32} {fa : Int64} {fb : Int64} {ap : Int32} {sp : Int32} {iw : Int32} {ig : Int32} {nu : Nat → Int32} {lst : Int32} {lwo : Int32} {hh : Int64} {r0 : Int64} {x1 : Int32} (X : Cx Γ p s m args meth c RX12 cX12_netOf 2 (some .long) w0) (hf : M_netOf x1 w = some r0) (Y : Wd Γ w0 s (WM Γ Am w kp tx td rf fa fb ap sp iw ig nu lst lwo hh) H locs) (hl : lv_has ls 2 [(0, .ref (Am 0)), (1, .int x1)]) : W p l e rmM_netOf s m args below meth c H locs 0 0 (EL Γ below args s w0 (WM Γ Am w kp tx td rf fa fb ap sp iw ig nu lst lwo hh) r0) (F0 m 0 ls []) := by
  have hx := X.1
  have hb := X.2.1
  refine lv_aload_n hx hb dX12_netOf_0 rfl (lv_at hl 0 rfl) ?_
  refine lv_iconst (v := (-1 : Int32)) hx hb dX12_netOf_1 (by decide) ?_
  obtain ⟨r_1, ho_8, hf⟩ := bd1_some hf
  refine t_i Y (bkS Y) (r_V (As := [.int (-1 : Int32)]) (rest := []) X (c_preS X Y) (cM_lossOf ho_8) (cwX12_169 X (by decide)) (va_recv X.K Y.1 (q := (RX12, TX12, 15)) (q0 := 0) (ci := 12) rfl rfl) rfl hl.1 (Nat.le_of_ble_eq_true rfl) rfl dX12_netOf_2 ⟨Nat.zero_le _, Nat.zero_le _⟩) (fun H locs Y => ?_)
  refine lv_i2l (v := r_1.toInt64) hx hb dX12_netOf_5 rfl ?_
  refine lv_aload_n hx hb dX12_netOf_6 rfl (lv_at hl 0 rfl) ?_
  refine lv_iload_n hx hb dX12_netOf_7 rfl (lv_at hl 1 rfl) ?_
  obtain ⟨r_2, ho_7, hf⟩ := bd1_some hf
  refine t_i Y (bkS Y) (r_V (As := [.int x1]) (rest := [.long r_1.toInt64]) X (c_preS X Y) (cM_bears ho_7) (cwX12_172 X (by decide)) (va_recv X.K Y.1 (q := (RX12, TX12, 15)) (q0 := 0) (ci := 12) rfl rfl) rfl hl.1 (Nat.le_of_ble_eq_true rfl) rfl dX12_netOf_8 ⟨Nat.zero_le _, Nat.zero_le _⟩) (fun H locs Y => ?_)
  refine lv_i2l (v := r_2.toInt64) hx hb dX12_netOf_11 rfl ?_
  refine lv_lmul hx hb dX12_netOf_12 ?_
  refine lv_aload_n hx hb dX12_netOf_13 rfl (lv_at hl 0 rfl) ?_
  refine lv_iload_n hx hb dX12_netOf_14 rfl (lv_at hl 1 rfl) ?_
  obtain ⟨r_3, ho_6, hf⟩ := bd1_some hf
  refine t_i Y (bkS Y) (r_V (As := [.int x1]) (rest := [.long (r_1.toInt64 * r_2.toInt64)]) X (c_preS X Y) (cM_lossOf ho_6) (cwX12_169 X (by decide)) (va_recv X.K Y.1 (q := (RX12, TX12, 15)) (q0 := 0) (ci := 12) rfl rfl) rfl hl.1 (Nat.le_of_ble_eq_true rfl) rfl dX12_netOf_15 ⟨Nat.zero_le _, Nat.zero_le _⟩) (fun H locs Y => ?_)
  refine lv_i2l (v := r_3.toInt64) hx hb dX12_netOf_18 rfl ?_
  refine lv_aload_n hx hb dX12_netOf_19 rfl (lv_at hl 0 rfl) ?_
  obtain ⟨r_4, ho_5, hf⟩ := bd1_some hf
  refine t_i Y (bkS Y) (r_V (As := []) (rest := [.long r_3.toInt64, .long (r_1.toInt64 * r_2.toInt64)]) X (c_preS X Y) (cM_whole ho_5) (cwX12_183 X (by decide)) (va_recv X.K Y.1 (q := (RX12, TX12, 15)) (q0 := 0) (ci := 12) rfl rfl) rfl hl.1 (Nat.le_of_ble_eq_true rfl) rfl dX12_netOf_20 ⟨Nat.zero_le _, Nat.zero_le _⟩) (fun H locs Y => ?_)
  refine lv_i2l (v := r_4.toInt64) hx hb dX12_netOf_23 rfl ?_
  refine lv_lmul hx hb dX12_netOf_24 ?_
  refine lv_lsub hx hb dX12_netOf_25 ?_
  have e90 := Option.some.inj hf
  subst e90
  exact x_lret X Y dX12_netOf_26
theorem cM_netOf {l : Launch} {Γ : Gm} {Am : Nat → Nat} {w : Nat → Int32} {kp : Nat → Int32} {tx : Nat → Int32} {td : Int32} {rf : Nat → Int32} {fa : Int64} {fb : Int64} {ap : Int32} {sp : Int32} {iw : Int32} {ig : Int32} {nu : Nat → Int32} {lst : Int32} {lwo : Int32} {hh : Int64} {r0 : Int64} {x1 : Int32} (h : M_netOf x1 w = some r0) : CL l Γ yX12_netOf (Cond.code yX12_netOf cX12_netOf 2 (some .long) :: GW) rmM_netOf [.ref (Am 0), .int x1] (WM Γ Am w kp tx td rf fa fb ap sp iw ig nu lst lwo hh) (WM Γ Am w kp tx td rf fa fb ap sp iw ig nu lst lwo hh) r0 := ofBody (Qc := QcL Γ _ _ r0) (by decide) (Nat.le_of_ble_eq_true rfl) (fun p e s m below meth c ls _ X Y hl => bM_netOf_e X h Y hl)
theorem dmX12_netOfV : yX12_netOf.cls = RX12 ∧ yX12_netOf.cls ≠ "java/lang/invoke/MethodHandle" ∧ yX12_netOf.cls ≠ "java/lang/invoke/VarHandle" ∧ (parseMethodDescriptor yX12_netOf.desc).map (fun d => d.parameters.length) = some 1 := by decide +kernel
theorem cwX12_190 (X : Cx Γ p s m args meth c RX12 cc nL ret w0) (hR : rmM_netOf.frames + 1 ≤ R.frames ∧ 8 + (2 + 11) + rmM_netOf.locals ≤ R.locals) : CallW R s args RX12 RX12 190 yX12_netOf cX12_netOf 2 (some .long) (Cond.code yX12_netOf cX12_netOf 2 (some .long) :: GW) rmM_netOf 0 0 1 := cw_V X kw151 kw152 kw153 kw4 kw154 dmX12_netOfV rfl rfl hR
def rmM_net : Room := { frames := 4, cells := 0, slots := 0, locals := 86 }
def M_net (x1 : Int32) (w : Nat → Int32) (rf : Nat → Int32) (fa : Int64) (fb : Int64) : Option (Int32 × (Nat → Int32) × Int64 × Int64) := bd1 (M_isOwner x1) (fun (r_1 : Int32) => if r_1 = 0 then (bd2 (M_bad rf) (fun (r_3 : Int32) (rf_4 : Nat → Int32) => some (r_3, rf_4, fa, fb))) else (bd1 (M_netOf x1 w) (fun (r_6 : Int64) => bd1 (M_whole w) (fun (r_7 : Int32) => bd3 (M_tellsPart r_6 r_7.toInt64 fa fb) (fun (r_8 : Int32) (fa_9 : Int64) (fb_10 : Int64) => some (r_8, rf, fa_9, fb_10))))))
set_option maxHeartbeats 4000000 in
set_option maxRecDepth 100000 in
theorem bM_net_e {Am : Nat → Nat} {w : Nat → Int32} {kp : Nat → Int32} {tx : Nat → Int32} {td : Int32} {rf : Nat → Int32} {fa : Int64} {fb : Int64} {ap : Int32} {sp : Int32} {iw : Int32} {ig : Int32} {nu : Nat → Int32} {lst : Int32} {lwo : Int32} {hh : Int64} {rf_z : Nat → Int32} {fa_z : Int64} {fb_z : Int64} {r0 : Int32} {x1 : Int32} (X : Cx Γ p s m args meth c RX12 cX12_net 2 (some .int) w0) (hf : M_net x1 w rf fa fb = some (r0, rf_z, fa_z, fb_z)) (Y : Wd Γ w0 s (WM Γ Am w kp tx td rf fa fb ap sp iw ig nu lst lwo hh) H locs) (hl : lv_has ls 2 [(0, .ref (Am 0)), (1, .int x1)]) : W p l e rmM_net s m args below meth c H locs 0 0 (EI Γ below args s w0 (WM Γ Am w kp tx td rf_z fa_z fb_z ap sp iw ig nu lst lwo hh) r0) (F0 m 0 ls []) := by
  have hx := X.1
  have hb := X.2.1
  refine lv_iload_n hx hb dX12_net_0 rfl (lv_at hl 1 rfl) ?_
  obtain ⟨r_1, ho_14, hf⟩ := bd1_some hf
  refine t_i Y (bk0 Y) (r_S (As := [.int x1]) (rest := []) X (c_pre0 X Y) (cM_isOwner ho_14) (cwX12_50 X (by decide)) rfl hl.1 (Nat.le_of_ble_eq_true rfl) rfl dX12_net_1 ⟨Nat.zero_le _, Nat.zero_le _⟩) (fun H locs Y => ?_)
  refine lv_if_eq (tgt := 24) hx hb dX12_net_4 (by decide) (fun c_2 => ?_) (fun c_2 => ?_)
  · have hf := ite_t hf c_2
    refine lv_aload_n hx hb dX12_net_24 rfl (lv_at hl 0 rfl) ?_
    obtain ⟨r_3, rf_4, ho_5, hf⟩ := bd2_some hf
    refine t_i Y (bkS Y) (r_V (As := []) (rest := []) X (c_preS X Y) (cM_bad ho_5) (cwX12_44 X (by decide)) (va_recv X.K Y.1 (q := (RX12, TX12, 15)) (q0 := 0) (ci := 12) rfl rfl) rfl hl.1 (Nat.le_of_ble_eq_true rfl) rfl dX12_net_25 ⟨Nat.zero_le _, Nat.zero_le _⟩) (fun H locs Y => ?_)
    obtain ⟨e90, e91, e92, e93⟩ := sj4 hf
    subst e90
    subst e91
    subst e92
    subst e93
    exact x_iret X Y dX12_net_28
  · have hf := ite_f hf c_2
    refine lv_aload_n hx hb dX12_net_7 rfl (lv_at hl 0 rfl) ?_
    refine lv_aload_n hx hb dX12_net_8 rfl (lv_at hl 0 rfl) ?_
    refine lv_iload_n hx hb dX12_net_9 rfl (lv_at hl 1 rfl) ?_
    obtain ⟨r_6, ho_13, hf⟩ := bd1_some hf
    refine t_l Y (bkS Y) (r_V (As := [.int x1]) (rest := [.ref (Am 0)]) X (c_preS X Y) (cM_netOf ho_13) (cwX12_190 X (by decide)) (va_recv X.K Y.1 (q := (RX12, TX12, 15)) (q0 := 0) (ci := 12) rfl rfl) rfl hl.1 (Nat.le_of_ble_eq_true rfl) rfl dX12_net_10 ⟨Nat.zero_le _, Nat.zero_le _⟩) (fun H locs Y => ?_)
    refine lv_aload_n hx hb dX12_net_13 rfl (lv_at hl 0 rfl) ?_
    obtain ⟨r_7, ho_12, hf⟩ := bd1_some hf
    refine t_i Y (bkS Y) (r_V (As := []) (rest := [.long r_6, .ref (Am 0)]) X (c_preS X Y) (cM_whole ho_12) (cwX12_183 X (by decide)) (va_recv X.K Y.1 (q := (RX12, TX12, 15)) (q0 := 0) (ci := 12) rfl rfl) rfl hl.1 (Nat.le_of_ble_eq_true rfl) rfl dX12_net_14 ⟨Nat.zero_le _, Nat.zero_le _⟩) (fun H locs Y => ?_)
    refine lv_i2l (v := r_7.toInt64) hx hb dX12_net_17 rfl ?_
    obtain ⟨r_8, fa_9, fb_10, ho_11, hf⟩ := bd3_some hf
    refine t_i Y (bkS Y) (r_V (As := [.long r_6, .long r_7.toInt64]) (rest := []) X (c_preS X Y) (cM_tellsPart ho_11) (cwX12_186 X (by decide)) (va_recv X.K Y.1 (q := (RX12, TX12, 15)) (q0 := 0) (ci := 12) rfl rfl) rfl hl.1 (Nat.le_of_ble_eq_true rfl) rfl dX12_net_18 ⟨Nat.zero_le _, Nat.zero_le _⟩) (fun H locs Y => ?_)
    refine lv_goto (tgt := 28) hx hb dX12_net_21 (by decide) ?_
    obtain ⟨e90, e91, e92, e93⟩ := sj4 hf
    subst e90
    subst e91
    subst e92
    subst e93
    exact x_iret X Y dX12_net_28
theorem cM_net {l : Launch} {Γ : Gm} {Am : Nat → Nat} {w : Nat → Int32} {kp : Nat → Int32} {tx : Nat → Int32} {td : Int32} {rf : Nat → Int32} {fa : Int64} {fb : Int64} {ap : Int32} {sp : Int32} {iw : Int32} {ig : Int32} {nu : Nat → Int32} {lst : Int32} {lwo : Int32} {hh : Int64} {rf_z : Nat → Int32} {fa_z : Int64} {fb_z : Int64} {r0 : Int32} {x1 : Int32} (h : M_net x1 w rf fa fb = some (r0, rf_z, fa_z, fb_z)) : CI l Γ yX12_net (Cond.code yX12_net cX12_net 2 (some .int) :: GW) rmM_net [.ref (Am 0), .int x1] (WM Γ Am w kp tx td rf fa fb ap sp iw ig nu lst lwo hh) (WM Γ Am w kp tx td rf_z fa_z fb_z ap sp iw ig nu lst lwo hh) r0 := ofBody (Qc := QcI Γ _ _ r0) (by decide) (Nat.le_of_ble_eq_true rfl) (fun p e s m below meth c ls _ X Y hl => bM_net_e X h Y hl)
def rmM_canGo : Room := { frames := 2, cells := 0, slots := 0, locals := 51 }
def M_canGo_6 (rc6 : Int32 → Int32 → Int32 → Int32 → Int32 → Int32 → (Nat → Int32) → Option (Int32)) (x1 : Int32) (x2 : Int32) (x3 : Int32) (x4 : Int32) (x5 : Int32) (x6 : Int32) (w : Nat → Int32) : Option (Int32) := if (w 0) ≤ x6 then (ck (bo x5) (some x5)) else (if x5 = 0 then (bnd (x6 + (1 : Int32)) (fun (x6_4 : Int32) => rc6 x1 x2 x3 x4 (0 : Int32) x6_4 w)) else (bd1 (M_has x2 x6) (fun (r_5 : Int32) => if r_5 = 0 then (bnd (x6 + (1 : Int32)) (fun (x6_7 : Int32) => rc6 x1 x2 x3 x4 (1 : Int32) x6_7 w)) else (bd1 (M_isTop (0 : Int32) ((x1 &&& (x2 ^^^ (-1 : Int32))) ||| ((1 : Int32) <<< (x6 &&& 31))) x6 x3 x4 w) (fun (r_8 : Int32) => if r_8 = 0 then (bnd (x6 + (1 : Int32)) (fun (x6_10 : Int32) => rc6 x1 x2 x3 x4 (0 : Int32) x6_10 w)) else (bnd (x6 + (1 : Int32)) (fun (x6_11 : Int32) => rc6 x1 x2 x3 x4 (1 : Int32) x6_11 w)))))))
set_option maxHeartbeats 4000000 in
set_option maxRecDepth 100000 in
theorem bM_canGo_6 {Am : Nat → Nat} {w : Nat → Int32} {kp : Nat → Int32} {tx : Nat → Int32} {td : Int32} {rf : Nat → Int32} {fa : Int64} {fb : Int64} {ap : Int32} {sp : Int32} {iw : Int32} {ig : Int32} {nu : Nat → Int32} {lst : Int32} {lwo : Int32} {hh : Int64} {r0 : Int32} {x1 : Int32} {x2 : Int32} {x3 : Int32} {x4 : Int32} {x5 : Int32} {x6 : Int32} {rc6 : Int32 → Int32 → Int32 → Int32 → Int32 → Int32 → (Nat → Int32) → Option (Int32)} (X : Cx Γ p s m args meth c RX12 cX12_canGo 7 (some .boolean) w0) (h6 : ∀ (x1 : Int32) (x2 : Int32) (x3 : Int32) (x4 : Int32) (x5 : Int32) (x6 : Int32) (w : Nat → Int32), rc6 x1 x2 x3 x4 x5 x6 w = some r0 → ∀ (H : Heap) (locs : List Loc) (ls : Array Slot), Wd Γ w0 s (WM Γ Am w kp tx td rf fa fb ap sp iw ig nu lst lwo hh) H locs → lv_has ls 7 [(0, .ref (Am 0)), (1, .int x1), (2, .int x2), (3, .int x3), (4, .int x4), (5, .int x5), (6, .int x6)] → W p l e rmM_canGo s m args below meth c H locs 0 0 (EI Γ below args s w0 (WM Γ Am w kp tx td rf fa fb ap sp iw ig nu lst lwo hh) r0) (F0 m 6 ls [])) (hf : M_canGo_6 rc6 x1 x2 x3 x4 x5 x6 w = some r0) (Y : Wd Γ w0 s (WM Γ Am w kp tx td rf fa fb ap sp iw ig nu lst lwo hh) H locs) (hl : lv_has ls 7 [(0, .ref (Am 0)), (1, .int x1), (2, .int x2), (3, .int x3), (4, .int x4), (5, .int x5), (6, .int x6)]) : W p l e rmM_canGo s m args below meth c H locs 0 0 (EI Γ below args s w0 (WM Γ Am w kp tx td rf fa fb ap sp iw ig nu lst lwo hh) r0) (F0 m 6 ls []) := by
  have hx := X.1
  have hb := X.2.1
  refine lv_iload hx hb dX12_canGo_6 (lv_at hl 6 rfl) ?_
  refine lv_aload_n hx hb dX12_canGo_8 rfl (lv_at hl 0 rfl) ?_
  refine gfX12_7 X Y (v := .ref (Am 1)) 0 rfl rfl dX12_canGo_9 ?_
  refine lv_iconst (v := (0 : Int32)) hx hb dX12_canGo_12 (by decide) ?_
  refine x_iald X Y 1 rfl (j := 0) rfl rfl dX12_canGo_13 ?_
  refine lv_icmp_ge (tgt := 67) hx hb dX12_canGo_14 (by decide) (fun c_1 => ?_) (fun c_1 => ?_)
  · have hf := ite_t hf c_1
    refine lv_iload hx hb dX12_canGo_67 (lv_at hl 5 rfl) ?_
    obtain ⟨hz_2, hf⟩ := ck_some hf
    have e90 := Option.some.inj hf
    subst e90
    exact x_zret X Y (bo_nar hz_2) dX12_canGo_69
  · have hf := ite_f hf c_1
    refine lv_iload hx hb dX12_canGo_17 (lv_at hl 5 rfl) ?_
    refine lv_if_eq (tgt := 58) hx hb dX12_canGo_19 (by decide) (fun c_3 => ?_) (fun c_3 => ?_)
    · have hf := ite_t hf c_3
      refine lv_iconst (v := (0 : Int32)) hx hb dX12_canGo_58 (by decide) ?_
      refine lv_istore (lv' := [(5, .int (0 : Int32)), (0, .ref (Am 0)), (1, .int x1), (2, .int x2), (3, .int x3), (4, .int x4), (6, .int x6)]) hx hb dX12_canGo_59 hl (by decide) rfl (fun ls hl => ?_)
      obtain ⟨x6_4, e_x6_4⟩ : ∃ z : Int32, z = (x6 + (1 : Int32)) := ⟨_, rfl⟩
      have hf := bnd_eq hf e_x6_4
      refine lv_iinc (v := x6_4) (lv' := [(6, .int x6_4), (5, .int (0 : Int32)), (0, .ref (Am 0)), (1, .int x1), (2, .int x2), (3, .int x3), (4, .int x4)]) hx hb dX12_canGo_61 hl (k := 6) rfl (by rw [e_x6_4]; rfl) (by decide) rfl (fun ls hl => ?_)
      refine lv_goto (tgt := 6) hx hb dX12_canGo_64 (by decide) ?_
      exact h6 _ _ _ _ _ _ _ hf _ _ _ Y (lv_sub hl [2, 3, 4, 5, 6, 1, 0] rfl)
    · have hf := ite_f hf c_3
      refine lv_iload_n hx hb dX12_canGo_22 rfl (lv_at hl 2 rfl) ?_
      refine lv_iload hx hb dX12_canGo_23 (lv_at hl 6 rfl) ?_
      obtain ⟨r_5, ho_13, hf⟩ := bd1_some hf
      refine t_i Y (bk0 Y) (r_S (As := [.int x2, .int x6]) (rest := []) X (c_pre0 X Y) (cM_has ho_13) (cwX12_70 X (by decide)) rfl hl.1 (Nat.le_of_ble_eq_true rfl) rfl dX12_canGo_25 ⟨Nat.zero_le _, Nat.zero_le _⟩) (fun H locs Y => ?_)
      refine lv_if_eq (tgt := 54) hx hb dX12_canGo_28 (by decide) (fun c_6 => ?_) (fun c_6 => ?_)
      · have hf := ite_t hf c_6
        refine lv_iconst (v := (1 : Int32)) hx hb dX12_canGo_54 (by decide) ?_
        refine lv_goto (tgt := 59) hx hb dX12_canGo_55 (by decide) ?_
        refine lv_istore (lv' := [(5, .int (1 : Int32)), (0, .ref (Am 0)), (1, .int x1), (2, .int x2), (3, .int x3), (4, .int x4), (6, .int x6)]) hx hb dX12_canGo_59 hl (by decide) rfl (fun ls hl => ?_)
        obtain ⟨x6_7, e_x6_7⟩ : ∃ z : Int32, z = (x6 + (1 : Int32)) := ⟨_, rfl⟩
        have hf := bnd_eq hf e_x6_7
        refine lv_iinc (v := x6_7) (lv' := [(6, .int x6_7), (5, .int (1 : Int32)), (0, .ref (Am 0)), (1, .int x1), (2, .int x2), (3, .int x3), (4, .int x4)]) hx hb dX12_canGo_61 hl (k := 6) rfl (by rw [e_x6_7]; rfl) (by decide) rfl (fun ls hl => ?_)
        refine lv_goto (tgt := 6) hx hb dX12_canGo_64 (by decide) ?_
        exact h6 _ _ _ _ _ _ _ hf _ _ _ Y (lv_sub hl [2, 3, 4, 5, 6, 1, 0] rfl)
      · have hf := ite_f hf c_6
        refine lv_aload_n hx hb dX12_canGo_31 rfl (lv_at hl 0 rfl) ?_
        refine lv_iconst (v := (0 : Int32)) hx hb dX12_canGo_32 (by decide) ?_
        refine lv_iload_n hx hb dX12_canGo_33 rfl (lv_at hl 1 rfl) ?_
        refine lv_iload_n hx hb dX12_canGo_34 rfl (lv_at hl 2 rfl) ?_
        refine lv_iconst (v := (-1 : Int32)) hx hb dX12_canGo_35 (by decide) ?_
        refine lv_ixor hx hb dX12_canGo_36 ?_
        refine lv_iand hx hb dX12_canGo_37 ?_
        refine lv_iconst (v := (1 : Int32)) hx hb dX12_canGo_38 (by decide) ?_
        refine lv_iload hx hb dX12_canGo_39 (lv_at hl 6 rfl) ?_
        refine lv_ishl hx hb dX12_canGo_41 ?_
        refine lv_ior hx hb dX12_canGo_42 ?_
        refine lv_iload hx hb dX12_canGo_43 (lv_at hl 6 rfl) ?_
        refine lv_iload_n hx hb dX12_canGo_45 rfl (lv_at hl 3 rfl) ?_
        refine lv_iload hx hb dX12_canGo_46 (lv_at hl 4 rfl) ?_
        obtain ⟨r_8, ho_12, hf⟩ := bd1_some hf
        refine t_i Y (bkS Y) (r_V (As := [.int (0 : Int32), .int ((x1 &&& (x2 ^^^ (-1 : Int32))) ||| ((1 : Int32) <<< (x6 &&& 31))), .int x6, .int x3, .int x4]) (rest := []) X (c_preS X Y) (cM_isTop ho_12) (cwX12_74 X (by decide)) (va_recv X.K Y.1 (q := (RX12, TX12, 15)) (q0 := 0) (ci := 12) rfl rfl) rfl hl.1 (Nat.le_of_ble_eq_true rfl) rfl dX12_canGo_48 ⟨Nat.zero_le _, Nat.zero_le _⟩) (fun H locs Y => ?_)
        refine lv_if_eq (tgt := 58) hx hb dX12_canGo_51 (by decide) (fun c_9 => ?_) (fun c_9 => ?_)
        · have hf := ite_t hf c_9
          refine lv_iconst (v := (0 : Int32)) hx hb dX12_canGo_58 (by decide) ?_
          refine lv_istore (lv' := [(5, .int (0 : Int32)), (0, .ref (Am 0)), (1, .int x1), (2, .int x2), (3, .int x3), (4, .int x4), (6, .int x6)]) hx hb dX12_canGo_59 hl (by decide) rfl (fun ls hl => ?_)
          obtain ⟨x6_10, e_x6_10⟩ : ∃ z : Int32, z = (x6 + (1 : Int32)) := ⟨_, rfl⟩
          have hf := bnd_eq hf e_x6_10
          refine lv_iinc (v := x6_10) (lv' := [(6, .int x6_10), (5, .int (0 : Int32)), (0, .ref (Am 0)), (1, .int x1), (2, .int x2), (3, .int x3), (4, .int x4)]) hx hb dX12_canGo_61 hl (k := 6) rfl (by rw [e_x6_10]; rfl) (by decide) rfl (fun ls hl => ?_)
          refine lv_goto (tgt := 6) hx hb dX12_canGo_64 (by decide) ?_
          exact h6 _ _ _ _ _ _ _ hf _ _ _ Y (lv_sub hl [2, 3, 4, 5, 6, 1, 0] rfl)
        · have hf := ite_f hf c_9
          refine lv_iconst (v := (1 : Int32)) hx hb dX12_canGo_54 (by decide) ?_
          refine lv_goto (tgt := 59) hx hb dX12_canGo_55 (by decide) ?_
          refine lv_istore (lv' := [(5, .int (1 : Int32)), (0, .ref (Am 0)), (1, .int x1), (2, .int x2), (3, .int x3), (4, .int x4), (6, .int x6)]) hx hb dX12_canGo_59 hl (by decide) rfl (fun ls hl => ?_)
          obtain ⟨x6_11, e_x6_11⟩ : ∃ z : Int32, z = (x6 + (1 : Int32)) := ⟨_, rfl⟩
          have hf := bnd_eq hf e_x6_11
          refine lv_iinc (v := x6_11) (lv' := [(6, .int x6_11), (5, .int (1 : Int32)), (0, .ref (Am 0)), (1, .int x1), (2, .int x2), (3, .int x3), (4, .int x4)]) hx hb dX12_canGo_61 hl (k := 6) rfl (by rw [e_x6_11]; rfl) (by decide) rfl (fun ls hl => ?_)
          refine lv_goto (tgt := 6) hx hb dX12_canGo_64 (by decide) ?_
          exact h6 _ _ _ _ _ _ _ hf _ _ _ Y (lv_sub hl [2, 3, 4, 5, 6, 1, 0] rfl)
def M_canGo_L6 : Nat → Int32 → Int32 → Int32 → Int32 → Int32 → Int32 → (Nat → Int32) → Option (Int32)
  | 0, _, _, _, _, _, _, _ => none
  | n + 1, x1, x2, x3, x4, x5, x6, w => M_canGo_6 (M_canGo_L6 n) x1 x2 x3 x4 x5 x6 w
theorem lM_canGo_6 {Am : Nat → Nat} {kp : Nat → Int32} {tx : Nat → Int32} {td : Int32} {rf : Nat → Int32} {fa : Int64} {fb : Int64} {ap : Int32} {sp : Int32} {iw : Int32} {ig : Int32} {nu : Nat → Int32} {lst : Int32} {lwo : Int32} {hh : Int64} {r0 : Int32} (X : Cx Γ p s m args meth c RX12 cX12_canGo 7 (some .boolean) w0) : ∀ (n : Nat) (x1 : Int32) (x2 : Int32) (x3 : Int32) (x4 : Int32) (x5 : Int32) (x6 : Int32) (w : Nat → Int32), M_canGo_L6 n x1 x2 x3 x4 x5 x6 w = some r0 → ∀ (H : Heap) (locs : List Loc) (ls : Array Slot), Wd Γ w0 s (WM Γ Am w kp tx td rf fa fb ap sp iw ig nu lst lwo hh) H locs → lv_has ls 7 [(0, .ref (Am 0)), (1, .int x1), (2, .int x2), (3, .int x3), (4, .int x4), (5, .int x5), (6, .int x6)] → W p l e rmM_canGo s m args below meth c H locs 0 0 (EI Γ below args s w0 (WM Γ Am w kp tx td rf fa fb ap sp iw ig nu lst lwo hh) r0) (F0 m 6 ls []) := by
  intro n
  induction n with
  | zero => intro x1 x2 x3 x4 x5 x6 w hf; cases hf
  | succ n ih => intro x1 x2 x3 x4 x5 x6 w hf H locs ls Y hl; exact bM_canGo_6 X ih hf Y hl
def M_canGo (x1 : Int32) (x2 : Int32) (x3 : Int32) (x4 : Int32) (w : Nat → Int32) : Option (Int32) := M_canGo_L6 FU x1 x2 x3 x4 (1 : Int32) (0 : Int32) w
set_option maxHeartbeats 4000000 in
set_option maxRecDepth 100000 in
theorem bM_canGo_e {Am : Nat → Nat} {w : Nat → Int32} {kp : Nat → Int32} {tx : Nat → Int32} {td : Int32} {rf : Nat → Int32} {fa : Int64} {fb : Int64} {ap : Int32} {sp : Int32} {iw : Int32} {ig : Int32} {nu : Nat → Int32} {lst : Int32} {lwo : Int32} {hh : Int64} {r0 : Int32} {x1 : Int32} {x2 : Int32} {x3 : Int32} {x4 : Int32} (X : Cx Γ p s m args meth c RX12 cX12_canGo 7 (some .boolean) w0) (hf : M_canGo x1 x2 x3 x4 w = some r0) (Y : Wd Γ w0 s (WM Γ Am w kp tx td rf fa fb ap sp iw ig nu lst lwo hh) H locs) (hl : lv_has ls 7 [(0, .ref (Am 0)), (1, .int x1), (2, .int x2), (3, .int x3), (4, .int x4)]) : W p l e rmM_canGo s m args below meth c H locs 0 0 (EI Γ below args s w0 (WM Γ Am w kp tx td rf fa fb ap sp iw ig nu lst lwo hh) r0) (F0 m 0 ls []) := by
  have hx := X.1
  have hb := X.2.1
  refine lv_iconst (v := (1 : Int32)) hx hb dX12_canGo_0 (by decide) ?_
  refine lv_istore (lv' := [(5, .int (1 : Int32)), (0, .ref (Am 0)), (1, .int x1), (2, .int x2), (3, .int x3), (4, .int x4)]) hx hb dX12_canGo_1 hl (by decide) rfl (fun ls hl => ?_)
  refine lv_iconst (v := (0 : Int32)) hx hb dX12_canGo_3 (by decide) ?_
  refine lv_istore (lv' := [(6, .int (0 : Int32)), (5, .int (1 : Int32)), (0, .ref (Am 0)), (1, .int x1), (2, .int x2), (3, .int x3), (4, .int x4)]) hx hb dX12_canGo_4 hl (by decide) rfl (fun ls hl => ?_)
  exact lM_canGo_6 X _ _ _ _ _ _ _ _ hf _ _ _ Y (lv_sub hl [2, 3, 4, 5, 6, 1, 0] rfl)
theorem cM_canGo {l : Launch} {Γ : Gm} {Am : Nat → Nat} {w : Nat → Int32} {kp : Nat → Int32} {tx : Nat → Int32} {td : Int32} {rf : Nat → Int32} {fa : Int64} {fb : Int64} {ap : Int32} {sp : Int32} {iw : Int32} {ig : Int32} {nu : Nat → Int32} {lst : Int32} {lwo : Int32} {hh : Int64} {r0 : Int32} {x1 : Int32} {x2 : Int32} {x3 : Int32} {x4 : Int32} (h : M_canGo x1 x2 x3 x4 w = some r0) : CI l Γ yX12_canGo (Cond.code yX12_canGo cX12_canGo 7 (some .boolean) :: GW) rmM_canGo [.ref (Am 0), .int x1, .int x2, .int x3, .int x4] (WM Γ Am w kp tx td rf fa fb ap sp iw ig nu lst lwo hh) (WM Γ Am w kp tx td rf fa fb ap sp iw ig nu lst lwo hh) r0 := ofBody (Qc := QcI Γ _ _ r0) (by decide) (Nat.le_of_ble_eq_true rfl) (fun p e s m below meth c ls _ X Y hl => bM_canGo_e X h Y hl)
end
