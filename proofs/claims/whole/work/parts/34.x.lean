section
variable {p : Program} {l : Launch} {e : Env} {R : Room} {s : State} {m : MethodId} {args : Array Value} {below : List Frame} {meth : Method} {c : Code} {H : Heap} {locs : List Loc} {Q : State → Prop} {cells slots : Nat}
variable {Γ : Gm} {own : String} {cc : ByteArray} {nL : Nat} {ret : Option FieldType} {w0 ws ws' : va_W} {pc : Nat} {ls : Array Slot} {rest : List Value} {a : Nat}
def rmT_takeNumbers6 : Room := { frames := 7, cells := 0, slots := 0, locals := 147 }
def T_takeNumbers6_51 (tby : Nat → Int32) (tnu : Nat → Int32) (tln : Int32) (tat : Int32) (tsr : Int32) (ttk : Int32) (tnm : Int32) (tft : Int32) : Option (Int32 × (Nat → Int32) × Int32 × Int32 × Int32 × Int32 × Int32) := some ((0 : Int32), tnu, tat, tsr, ttk, tnm, tsr)
set_option maxHeartbeats 4000000 in
set_option maxRecDepth 100000 in
theorem bT_takeNumbers6_51 {At : Nat → Nat} {tby : Nat → Int32} {tnu : Nat → Int32} {tln : Int32} {tat : Int32} {tsr : Int32} {ttk : Int32} {tnm : Int32} {tit : Int32} {tft : Int32} {tnu_z : Nat → Int32} {tat_z : Int32} {tsr_z : Int32} {ttk_z : Int32} {tnm_z : Int32} {tft_z : Int32} {r0 : Int32} (X : Cx Γ p s m args meth c RX10 cX10_takeNumbers 4 (some .boolean) w0) (hf : T_takeNumbers6_51 tby tnu tln tat tsr ttk tnm tft = some (r0, tnu_z, tat_z, tsr_z, ttk_z, tnm_z, tft_z)) (Y : Wd Γ w0 s (WT Γ At tby tnu tln tat tsr ttk tnm tit tft) H locs) (hl : lv_has ls 4 [(0, .ref (At 0))]) : W p l e rmT_takeNumbers6 s m args below meth c H locs 0 0 (EI Γ below args s w0 (WT Γ At tby tnu_z tln tat_z tsr_z ttk_z tnm_z tit tft_z) r0) (F0 m 51 ls []) := by
  have hx := X.1
  have hb := X.2.1
  refine lv_aload_n hx hb dX10_takeNumbers_51 rfl (lv_at hl 0 rfl) ?_
  refine lv_aload_n hx hb dX10_takeNumbers_52 rfl (lv_at hl 0 rfl) ?_
  refine gfX10_81 X Y (v := .int tsr) 0 rfl rfl dX10_takeNumbers_53 ?_
  refine pfX10_33 X Y 0 rfl rfl rfl (Nat.le_of_ble_eq_true rfl) (ws' := (WT Γ At tby tnu tln tat tsr ttk tnm tit tsr)) rfl dX10_takeNumbers_56 (fun H locs Y => ?_)
  refine lv_iconst (v := (0 : Int32)) hx hb dX10_takeNumbers_59 (by decide) ?_
  obtain ⟨e90, e91, e92, e93, e94, e95, e96⟩ := sj7 hf
  subst e90
  subst e91
  subst e92
  subst e93
  subst e94
  subst e95
  subst e96
  exact x_zret X Y rfl dX10_takeNumbers_60
def T_takeNumbers6_6 (rc6 : Int32 → (Nat → Int32) → (Nat → Int32) → Int32 → Int32 → Int32 → Int32 → Int32 → Int32 → Option (Int32 × (Nat → Int32) × Int32 × Int32 × Int32 × Int32 × Int32)) (x3 : Int32) (tby : Nat → Int32) (tnu : Nat → Int32) (tln : Int32) (tat : Int32) (tsr : Int32) (ttk : Int32) (tnm : Int32) (tft : Int32) : Option (Int32 × (Nat → Int32) × Int32 × Int32 × Int32 × Int32 × Int32) := if (6 : Int32) ≤ x3 then (some ((1 : Int32), tnu, tat, tsr, ttk, tnm, tft)) else (if (6 : Int32) ≤ x3 then (some ((1 : Int32), tnu, tat, tsr, ttk, tnm, tft)) else (if (6 : Int32) ≤ x3 then (some ((1 : Int32), tnu, tat, tsr, ttk, tnm, tft)) else (if ttk = (4 : Int32) then (ck (inb x3 6) (ck (inb x3 6) (bd1 (X_within tnm (([0, 0, 0, 1, 0, 0] : List Int32).getD x3.toNatClampNeg 0) (([5, 3, 2, 40, 60, 60] : List Int32).getD x3.toNatClampNeg 0)) (fun (r_7 : Int32) => if r_7 = 0 then (T_takeNumbers6_51 tby tnu tln tat tsr ttk tnm tft) else (ck (inb x3 6) (bnd (upd tnu x3.toNatClampNeg tnm) (fun (tnu_9 : Nat → Int32) => bd4 (T_step tby tln tat tsr ttk tnm) (fun (tat_11 : Int32) (tsr_12 : Int32) (ttk_13 : Int32) (tnm_14 : Int32) => bnd (x3 + (1 : Int32)) (fun (x3_15 : Int32) => rc6 x3_15 tby tnu_9 tln tat_11 tsr_12 ttk_13 tnm_14 tft))))))))) else (T_takeNumbers6_51 tby tnu tln tat tsr ttk tnm tft))))
set_option maxHeartbeats 4000000 in
set_option maxRecDepth 100000 in
theorem bT_takeNumbers6_6 {At : Nat → Nat} {tby : Nat → Int32} {tnu : Nat → Int32} {tln : Int32} {tat : Int32} {tsr : Int32} {ttk : Int32} {tnm : Int32} {tit : Int32} {tft : Int32} {tnu_z : Nat → Int32} {tat_z : Int32} {tsr_z : Int32} {ttk_z : Int32} {tnm_z : Int32} {tft_z : Int32} {r0 : Int32} {x3 : Int32} {rc6 : Int32 → (Nat → Int32) → (Nat → Int32) → Int32 → Int32 → Int32 → Int32 → Int32 → Int32 → Option (Int32 × (Nat → Int32) × Int32 × Int32 × Int32 × Int32 × Int32)} (X : Cx Γ p s m args meth c RX10 cX10_takeNumbers 4 (some .boolean) w0) (h6 : ∀ (x3 : Int32) (tby : Nat → Int32) (tnu : Nat → Int32) (tln : Int32) (tat : Int32) (tsr : Int32) (ttk : Int32) (tnm : Int32) (tft : Int32), rc6 x3 tby tnu tln tat tsr ttk tnm tft = some (r0, tnu_z, tat_z, tsr_z, ttk_z, tnm_z, tft_z) → ∀ (H : Heap) (locs : List Loc) (ls : Array Slot), Wd Γ w0 s (WT Γ At tby tnu tln tat tsr ttk tnm tit tft) H locs → lv_has ls 4 [(0, .ref (At 0)), (1, .ref (Γ.2.2 2)), (2, .ref (Γ.2.2 3)), (3, .int x3)] → W p l e rmT_takeNumbers6 s m args below meth c H locs 0 0 (EI Γ below args s w0 (WT Γ At tby tnu_z tln tat_z tsr_z ttk_z tnm_z tit tft_z) r0) (F0 m 6 ls [])) (hf : T_takeNumbers6_6 rc6 x3 tby tnu tln tat tsr ttk tnm tft = some (r0, tnu_z, tat_z, tsr_z, ttk_z, tnm_z, tft_z)) (Y : Wd Γ w0 s (WT Γ At tby tnu tln tat tsr ttk tnm tit tft) H locs) (hl : lv_has ls 4 [(0, .ref (At 0)), (1, .ref (Γ.2.2 2)), (2, .ref (Γ.2.2 3)), (3, .int x3)]) : W p l e rmT_takeNumbers6 s m args below meth c H locs 0 0 (EI Γ below args s w0 (WT Γ At tby tnu_z tln tat_z tsr_z ttk_z tnm_z tit tft_z) r0) (F0 m 6 ls []) := by
  have hx := X.1
  have hb := X.2.1
  refine lv_iload_n hx hb dX10_takeNumbers_6 rfl (lv_at hl 3 rfl) ?_
  refine lv_aload_n hx hb dX10_takeNumbers_7 rfl (lv_at hl 1 rfl) ?_
  refine x_tlen X Y 2 (q := ("GOODS_LEAST", [0, 0, 0, 1, 0, 0])) rfl (v := (6 : Int32)) rfl dX10_takeNumbers_8 ?_
  refine lv_icmp_ge (tgt := 81) hx hb dX10_takeNumbers_9 (by decide) (fun c_1 => ?_) (fun c_1 => ?_)
  · have hf := ite_t hf c_1
    refine lv_iconst (v := (1 : Int32)) hx hb dX10_takeNumbers_81 (by decide) ?_
    obtain ⟨e90, e91, e92, e93, e94, e95, e96⟩ := sj7 hf
    subst e90
    subst e91
    subst e92
    subst e93
    subst e94
    subst e95
    subst e96
    exact x_zret X Y rfl dX10_takeNumbers_82
  · have hf := ite_f hf c_1
    refine lv_iload_n hx hb dX10_takeNumbers_12 rfl (lv_at hl 3 rfl) ?_
    refine lv_aload_n hx hb dX10_takeNumbers_13 rfl (lv_at hl 2 rfl) ?_
    refine x_tlen X Y 3 (q := ("GOODS_MOST", [5, 3, 2, 40, 60, 60])) rfl (v := (6 : Int32)) rfl dX10_takeNumbers_14 ?_
    refine lv_icmp_ge (tgt := 81) hx hb dX10_takeNumbers_15 (by decide) (fun c_2 => ?_) (fun c_2 => ?_)
    · have hf := ite_t hf c_2
      refine lv_iconst (v := (1 : Int32)) hx hb dX10_takeNumbers_81 (by decide) ?_
      obtain ⟨e90, e91, e92, e93, e94, e95, e96⟩ := sj7 hf
      subst e90
      subst e91
      subst e92
      subst e93
      subst e94
      subst e95
      subst e96
      exact x_zret X Y rfl dX10_takeNumbers_82
    · have hf := ite_f hf c_2
      refine lv_iload_n hx hb dX10_takeNumbers_18 rfl (lv_at hl 3 rfl) ?_
      refine lv_aload_n hx hb dX10_takeNumbers_19 rfl (lv_at hl 0 rfl) ?_
      refine gfX10_15 X Y (v := .ref (At 2)) 0 rfl rfl dX10_takeNumbers_20 ?_
      refine x_alen X Y 2 0 rfl rfl (v := (6 : Int32)) rfl dX10_takeNumbers_23 ?_
      refine lv_icmp_ge (tgt := 81) hx hb dX10_takeNumbers_24 (by decide) (fun c_3 => ?_) (fun c_3 => ?_)
      · have hf := ite_t hf c_3
        refine lv_iconst (v := (1 : Int32)) hx hb dX10_takeNumbers_81 (by decide) ?_
        obtain ⟨e90, e91, e92, e93, e94, e95, e96⟩ := sj7 hf
        subst e90
        subst e91
        subst e92
        subst e93
        subst e94
        subst e95
        subst e96
        exact x_zret X Y rfl dX10_takeNumbers_82
      · have hf := ite_f hf c_3
        refine lv_aload_n hx hb dX10_takeNumbers_27 rfl (lv_at hl 0 rfl) ?_
        refine gfX10_39 X Y (v := .int ttk) 0 rfl rfl dX10_takeNumbers_28 ?_
        refine lv_iconst (v := (4 : Int32)) hx hb dX10_takeNumbers_31 (by decide) ?_
        refine lv_icmp_ne (tgt := 51) hx hb dX10_takeNumbers_32 (by decide) (fun c_4 => ?_) (fun c_4 => ?_)
        · have hf := ite_f hf c_4
          exact bT_takeNumbers6_51 X hf Y (lv_sub hl [0] rfl)
        · have hf := ite_t hf c_4
          refine lv_aload_n hx hb dX10_takeNumbers_35 rfl (lv_at hl 0 rfl) ?_
          refine gfX10_84 X Y (v := .int tnm) 0 rfl rfl dX10_takeNumbers_36 ?_
          refine lv_aload_n hx hb dX10_takeNumbers_39 rfl (lv_at hl 1 rfl) ?_
          refine lv_iload_n hx hb dX10_takeNumbers_40 rfl (lv_at hl 3 rfl) ?_
          obtain ⟨hi_5, hf⟩ := ck_some hf
          refine x_ti X Y 2 (q := ("GOODS_LEAST", [0, 0, 0, 1, 0, 0])) rfl hi_5 rfl dX10_takeNumbers_41 ?_
          refine lv_aload_n hx hb dX10_takeNumbers_42 rfl (lv_at hl 2 rfl) ?_
          refine lv_iload_n hx hb dX10_takeNumbers_43 rfl (lv_at hl 3 rfl) ?_
          obtain ⟨hi_6, hf⟩ := ck_some hf
          refine x_ti X Y 3 (q := ("GOODS_MOST", [5, 3, 2, 40, 60, 60])) rfl hi_6 rfl dX10_takeNumbers_44 ?_
          obtain ⟨r_7, ho_17, hf⟩ := bd1_some hf
          refine t_i Y (bk0 Y) (r_SN (As := [.int tnm, .int (([0, 0, 0, 1, 0, 0] : List Int32).getD x3.toNatClampNeg 0), .int (([5, 3, 2, 40, 60, 60] : List Int32).getD x3.toNatClampNeg 0)]) (rest := []) X (c_pre0 X Y) (cX_within ho_17) (cwX10_23 X (by decide)) rfl hl.1 (Nat.le_of_ble_eq_true rfl) rfl dX10_takeNumbers_45 ⟨Nat.zero_le _, Nat.zero_le _⟩) (fun H locs Y => ?_)
          refine lv_if_ne (tgt := 61) hx hb dX10_takeNumbers_48 (by decide) (fun c_8 => ?_) (fun c_8 => ?_)
          · have hf := ite_f hf c_8
            refine lv_aload_n hx hb dX10_takeNumbers_61 rfl (lv_at hl 0 rfl) ?_
            refine gfX10_15 X Y (v := .ref (At 2)) 0 rfl rfl dX10_takeNumbers_62 ?_
            refine lv_iload_n hx hb dX10_takeNumbers_65 rfl (lv_at hl 3 rfl) ?_
            refine lv_aload_n hx hb dX10_takeNumbers_66 rfl (lv_at hl 0 rfl) ?_
            refine gfX10_84 X Y (v := .int tnm) 0 rfl rfl dX10_takeNumbers_67 ?_
            obtain ⟨hi_10, hf⟩ := ck_some hf
            obtain ⟨tnu_9, e_tnu_9⟩ : ∃ z : Nat → Int32, z = (upd tnu x3.toNatClampNeg tnm) := ⟨_, rfl⟩
            have hf := bnd_eq hf e_tnu_9
            refine x_iast X Y 2 rfl rfl hi_10 (ws' := (WT Γ At tby tnu_9 tln tat tsr ttk tnm tit tft)) (by subst e_tnu_9; rfl) dX10_takeNumbers_70 (fun H locs Y => ?_)
            refine lv_aload_n hx hb dX10_takeNumbers_71 rfl (lv_at hl 0 rfl) ?_
            obtain ⟨tat_11, tsr_12, ttk_13, tnm_14, ho_16, hf⟩ := bd4_some hf
            refine t_v Y (bkS Y) (r_V (As := []) (rest := []) X (c_preS X Y) (cT_step ho_16) (cwX10_36 X (by decide)) (va_recv X.K Y.1 (q := (RX10, TX10, 9)) (q0 := 0) (ci := 10) rfl rfl) rfl hl.1 (Nat.le_of_ble_eq_true rfl) rfl dX10_takeNumbers_72 ⟨Nat.zero_le _, Nat.zero_le _⟩) (fun H locs Y => ?_)
            obtain ⟨x3_15, e_x3_15⟩ : ∃ z : Int32, z = (x3 + (1 : Int32)) := ⟨_, rfl⟩
            have hf := bnd_eq hf e_x3_15
            refine lv_iinc (v := x3_15) (lv' := [(3, .int x3_15), (0, .ref (At 0)), (1, .ref (Γ.2.2 2)), (2, .ref (Γ.2.2 3))]) hx hb dX10_takeNumbers_75 hl (k := 3) rfl (by rw [e_x3_15]; rfl) (by decide) rfl (fun ls hl => ?_)
            refine lv_goto (tgt := 6) hx hb dX10_takeNumbers_78 (by decide) ?_
            exact h6 _ _ _ _ _ _ _ _ _ hf _ _ _ Y (lv_sub hl [1, 2, 3, 0] rfl)
          · have hf := ite_t hf c_8
            exact bT_takeNumbers6_51 X hf Y (lv_sub hl [0] rfl)
def T_takeNumbers6_L6 : Nat → Int32 → (Nat → Int32) → (Nat → Int32) → Int32 → Int32 → Int32 → Int32 → Int32 → Int32 → Option (Int32 × (Nat → Int32) × Int32 × Int32 × Int32 × Int32 × Int32)
  | 0, _, _, _, _, _, _, _, _, _ => none
  | n + 1, x3, tby, tnu, tln, tat, tsr, ttk, tnm, tft => T_takeNumbers6_6 (T_takeNumbers6_L6 n) x3 tby tnu tln tat tsr ttk tnm tft
theorem lT_takeNumbers6_6 {At : Nat → Nat} {tit : Int32} {tnu_z : Nat → Int32} {tat_z : Int32} {tsr_z : Int32} {ttk_z : Int32} {tnm_z : Int32} {tft_z : Int32} {r0 : Int32} (X : Cx Γ p s m args meth c RX10 cX10_takeNumbers 4 (some .boolean) w0) : ∀ (n : Nat) (x3 : Int32) (tby : Nat → Int32) (tnu : Nat → Int32) (tln : Int32) (tat : Int32) (tsr : Int32) (ttk : Int32) (tnm : Int32) (tft : Int32), T_takeNumbers6_L6 n x3 tby tnu tln tat tsr ttk tnm tft = some (r0, tnu_z, tat_z, tsr_z, ttk_z, tnm_z, tft_z) → ∀ (H : Heap) (locs : List Loc) (ls : Array Slot), Wd Γ w0 s (WT Γ At tby tnu tln tat tsr ttk tnm tit tft) H locs → lv_has ls 4 [(0, .ref (At 0)), (1, .ref (Γ.2.2 2)), (2, .ref (Γ.2.2 3)), (3, .int x3)] → W p l e rmT_takeNumbers6 s m args below meth c H locs 0 0 (EI Γ below args s w0 (WT Γ At tby tnu_z tln tat_z tsr_z ttk_z tnm_z tit tft_z) r0) (F0 m 6 ls []) := by
  intro n
  induction n with
  | zero => intro x3 tby tnu tln tat tsr ttk tnm tft hf; cases hf
  | succ n ih => intro x3 tby tnu tln tat tsr ttk tnm tft hf H locs ls Y hl; exact bT_takeNumbers6_6 X ih hf Y hl
def T_takeNumbers6 (tby : Nat → Int32) (tnu : Nat → Int32) (tln : Int32) (tat : Int32) (tsr : Int32) (ttk : Int32) (tnm : Int32) (tft : Int32) : Option (Int32 × (Nat → Int32) × Int32 × Int32 × Int32 × Int32 × Int32) := bd4 (T_step tby tln tat tsr ttk tnm) (fun (tat_1 : Int32) (tsr_2 : Int32) (ttk_3 : Int32) (tnm_4 : Int32) => T_takeNumbers6_L6 FU (0 : Int32) tby tnu tln tat_1 tsr_2 ttk_3 tnm_4 tft)
set_option maxHeartbeats 4000000 in
set_option maxRecDepth 100000 in
theorem bT_takeNumbers6_e {At : Nat → Nat} {tby : Nat → Int32} {tnu : Nat → Int32} {tln : Int32} {tat : Int32} {tsr : Int32} {ttk : Int32} {tnm : Int32} {tit : Int32} {tft : Int32} {tnu_z : Nat → Int32} {tat_z : Int32} {tsr_z : Int32} {ttk_z : Int32} {tnm_z : Int32} {tft_z : Int32} {r0 : Int32} (X : Cx Γ p s m args meth c RX10 cX10_takeNumbers 4 (some .boolean) w0) (hf : T_takeNumbers6 tby tnu tln tat tsr ttk tnm tft = some (r0, tnu_z, tat_z, tsr_z, ttk_z, tnm_z, tft_z)) (Y : Wd Γ w0 s (WT Γ At tby tnu tln tat tsr ttk tnm tit tft) H locs) (hl : lv_has ls 4 [(0, .ref (At 0)), (1, .ref (Γ.2.2 2)), (2, .ref (Γ.2.2 3))]) : W p l e rmT_takeNumbers6 s m args below meth c H locs 0 0 (EI Γ below args s w0 (WT Γ At tby tnu_z tln tat_z tsr_z ttk_z tnm_z tit tft_z) r0) (F0 m 0 ls []) := by
  have hx := X.1
  have hb := X.2.1
  refine lv_aload_n hx hb dX10_takeNumbers_0 rfl (lv_at hl 0 rfl) ?_
  obtain ⟨tat_1, tsr_2, ttk_3, tnm_4, ho_5, hf⟩ := bd4_some hf
  refine t_v Y (bkS Y) (r_V (As := []) (rest := []) X (c_preS X Y) (cT_step ho_5) (cwX10_36 X (by decide)) (va_recv X.K Y.1 (q := (RX10, TX10, 9)) (q0 := 0) (ci := 10) rfl rfl) rfl hl.1 (Nat.le_of_ble_eq_true rfl) rfl dX10_takeNumbers_1 ⟨Nat.zero_le _, Nat.zero_le _⟩) (fun H locs Y => ?_)
  refine lv_iconst (v := (0 : Int32)) hx hb dX10_takeNumbers_4 (by decide) ?_
  refine lv_istore_n (lv' := [(3, .int (0 : Int32)), (0, .ref (At 0)), (1, .ref (Γ.2.2 2)), (2, .ref (Γ.2.2 3))]) hx hb dX10_takeNumbers_5 rfl hl (by decide) rfl (fun ls hl => ?_)
  exact lT_takeNumbers6_6 X _ _ _ _ _ _ _ _ _ _ hf _ _ _ Y (lv_sub hl [1, 2, 3, 0] rfl)
theorem cT_takeNumbers6 {l : Launch} {Γ : Gm} {At : Nat → Nat} {tby : Nat → Int32} {tnu : Nat → Int32} {tln : Int32} {tat : Int32} {tsr : Int32} {ttk : Int32} {tnm : Int32} {tit : Int32} {tft : Int32} {tnu_z : Nat → Int32} {tat_z : Int32} {tsr_z : Int32} {ttk_z : Int32} {tnm_z : Int32} {tft_z : Int32} {r0 : Int32} (h : T_takeNumbers6 tby tnu tln tat tsr ttk tnm tft = some (r0, tnu_z, tat_z, tsr_z, ttk_z, tnm_z, tft_z)) : CI l Γ yX10_takeNumbers (Cond.code yX10_takeNumbers cX10_takeNumbers 4 (some .boolean) :: GW) rmT_takeNumbers6 [.ref (At 0), .ref (Γ.2.2 2), .ref (Γ.2.2 3)] (WT Γ At tby tnu tln tat tsr ttk tnm tit tft) (WT Γ At tby tnu_z tln tat_z tsr_z ttk_z tnm_z tit tft_z) r0 := ofBody (Qc := QcI Γ _ _ r0) (by decide) (Nat.le_of_ble_eq_true rfl) (fun p e s m below meth c ls _ X Y hl => bT_takeNumbers6_e X h Y hl)
theorem gfX10_87 (X : Cx Γ p s m args meth c RX10 cc nL ret w0) (Y : Wd Γ w0 s ws H locs) {v : Value} (q0 : Nat) {fs : List Value} (he : ws[q0]? = some (a, .inr (1, fs))) (hv : fs[3]? = some v) (hdg : decode cc pc = .ok (.getfield 87, 3)) (kk : W p l e R s m args below meth c H locs cells slots Q (F0 m (pc + 3) ls (v :: rest))) : W p l e R s m args below meth c H locs cells slots Q (F0 m pc ls (.ref a :: rest)) := x_getN X Y iX1 rfl 3 (by decide) rfl kw448 q0 he hv hdg kk
theorem dmX1_heaveV : yX1_heave.cls = RX1 ∧ yX1_heave.cls ≠ "java/lang/invoke/MethodHandle" ∧ yX1_heave.cls ≠ "java/lang/invoke/VarHandle" ∧ (parseMethodDescriptor yX1_heave.desc).map (fun d => d.parameters.length) = some 1 := by decide +kernel
theorem cwX10_94 (X : Cx Γ p s m args meth c RX10 cc nL ret w0) (hR : rmC_heave.frames + 1 ≤ R.frames ∧ 8 + (2 + 11) + rmC_heave.locals ≤ R.locals) : CallW R s args RX10 RX1 94 yX1_heave cX1_heave 2 none (Cond.code yX1_heave cX1_heave 2 none :: GW) rmC_heave 0 0 1 := cw_V X kw449 kw450 kw451 kw228 kw452 dmX1_heaveV rfl rfl hR
theorem cwX10_90 (X : Cx Γ p s m args meth c RX10 cc nL ret w0) (hR : rmC_isTop.frames + 1 ≤ R.frames ∧ 8 + (4 + 11) + rmC_isTop.locals ≤ R.locals) : CallW R s args RX10 RX1 90 yX1_isTop cX1_isTop 4 (some .boolean) (Cond.code yX1_isTop cX1_isTop 4 (some .boolean) :: GW) rmC_isTop 0 0 2 := cw_V X kw453 kw249 kw250 kw228 kw251 dmX1_isTopV rfl rfl hR
def rmT_takeOver : Room := { frames := 7, cells := 0, slots := 0, locals := 147 }
def T_takeOver_42 (tby : Nat → Int32) (tln : Int32) (tat : Int32) (tsr : Int32) (ttk : Int32) (tnm : Int32) (tft : Int32) (csi : Int32) (cab : Int32) (cun : Int32) (cfa : Nat → Int32) (che : Nat → Int32) : Option (Int32 × Int32 × Int32 × Int32 × Int32 × Int32 × Int32 × (Nat → Int32)) := some (tat, tsr, ttk, tnm, tsr, cab, cun, che)
set_option maxHeartbeats 4000000 in
set_option maxRecDepth 100000 in
theorem bT_takeOver_42 {At : Nat → Nat} {Ac : Nat → Nat} {tby : Nat → Int32} {tnu : Nat → Int32} {tln : Int32} {tat : Int32} {tsr : Int32} {ttk : Int32} {tnm : Int32} {tit : Int32} {tft : Int32} {csw : Int32} {cca : Int32} {csi : Int32} {cab : Int32} {cun : Int32} {csg : Int32} {cfa : Nat → Int32} {che : Nat → Int32} {cst : Nat → Int32} {tat_z : Int32} {tsr_z : Int32} {ttk_z : Int32} {tnm_z : Int32} {tft_z : Int32} {cab_z : Int32} {cun_z : Int32} {che_z : Nat → Int32} (X : Cx Γ p s m args meth c RX10 cX10_takeOver 2 none w0) (hf : T_takeOver_42 tby tln tat tsr ttk tnm tft csi cab cun cfa che = some (tat_z, tsr_z, ttk_z, tnm_z, tft_z, cab_z, cun_z, che_z)) (Y : Wd Γ w0 s ((WT Γ At tby tnu tln tat tsr ttk tnm tit tft) ++ (WC Γ Ac csw cca csi cab cun csg cfa che cst)) H locs) (hl : lv_has ls 2 [(0, .ref (At 0))]) : W p l e rmT_takeOver s m args below meth c H locs 0 0 (EV Γ below args s w0 ((WT Γ At tby tnu tln tat_z tsr_z ttk_z tnm_z tit tft_z) ++ (WC Γ Ac csw cca csi cab_z cun_z csg cfa che_z cst))) (F0 m 42 ls []) := by
  have hx := X.1
  have hb := X.2.1
  refine lv_aload_n hx hb dX10_takeOver_42 rfl (lv_at hl 0 rfl) ?_
  refine lv_aload_n hx hb dX10_takeOver_43 rfl (lv_at hl 0 rfl) ?_
  refine gfX10_81 X Y (v := .int tsr) 0 rfl rfl dX10_takeOver_44 ?_
  refine pfX10_33 X Y 0 rfl rfl rfl (Nat.le_of_ble_eq_true rfl) (ws' := ((WT Γ At tby tnu tln tat tsr ttk tnm tit tsr) ++ (WC Γ Ac csw cca csi cab cun csg cfa che cst))) rfl dX10_takeOver_47 (fun H locs Y => ?_)
  obtain ⟨e90, e91, e92, e93, e94, e95, e96, e97⟩ := sj8 hf
  subst e90
  subst e91
  subst e92
  subst e93
  subst e94
  subst e95
  subst e96
  subst e97
  exact x_vret X Y dX10_takeOver_50
def T_takeOver (tby : Nat → Int32) (tln : Int32) (tat : Int32) (tsr : Int32) (ttk : Int32) (tnm : Int32) (tft : Int32) (csi : Int32) (cab : Int32) (cun : Int32) (cfa : Nat → Int32) (che : Nat → Int32) : Option (Int32 × Int32 × Int32 × Int32 × Int32 × Int32 × Int32 × (Nat → Int32)) := bd4 (T_step tby tln tat tsr ttk tnm) (fun (tat_1 : Int32) (tsr_2 : Int32) (ttk_3 : Int32) (tnm_4 : Int32) => if ttk_3 = (4 : Int32) then (bd1 (C_isTop tnm_4 cab csi cfa) (fun (r_6 : Int32) => if r_6 = 0 then (T_takeOver_42 tby tln tat_1 tsr_2 ttk_3 tnm_4 tft csi cab cun cfa che) else (bd3 (C_heave tnm_4 csi cab cun che) (fun (cab_8 : Int32) (cun_9 : Int32) (che_10 : Nat → Int32) => bd4 (T_step tby tln tat_1 tsr_2 ttk_3 tnm_4) (fun (tat_11 : Int32) (tsr_12 : Int32) (ttk_13 : Int32) (tnm_14 : Int32) => some (tat_11, tsr_12, ttk_13, tnm_14, tft, cab_8, cun_9, che_10)))))) else (T_takeOver_42 tby tln tat_1 tsr_2 ttk_3 tnm_4 tft csi cab cun cfa che))
set_option maxHeartbeats 4000000 in
set_option maxRecDepth 100000 in
theorem bT_takeOver_e {At : Nat → Nat} {Ac : Nat → Nat} {tby : Nat → Int32} {tnu : Nat → Int32} {tln : Int32} {tat : Int32} {tsr : Int32} {ttk : Int32} {tnm : Int32} {tit : Int32} {tft : Int32} {csw : Int32} {cca : Int32} {csi : Int32} {cab : Int32} {cun : Int32} {csg : Int32} {cfa : Nat → Int32} {che : Nat → Int32} {cst : Nat → Int32} {tat_z : Int32} {tsr_z : Int32} {ttk_z : Int32} {tnm_z : Int32} {tft_z : Int32} {cab_z : Int32} {cun_z : Int32} {che_z : Nat → Int32} (X : Cx Γ p s m args meth c RX10 cX10_takeOver 2 none w0) (hf : T_takeOver tby tln tat tsr ttk tnm tft csi cab cun cfa che = some (tat_z, tsr_z, ttk_z, tnm_z, tft_z, cab_z, cun_z, che_z)) (Y : Wd Γ w0 s ((WT Γ At tby tnu tln tat tsr ttk tnm tit tft) ++ (WC Γ Ac csw cca csi cab cun csg cfa che cst)) H locs) (hl : lv_has ls 2 [(0, .ref (At 0)), (1, .ref (Ac 0))]) : W p l e rmT_takeOver s m args below meth c H locs 0 0 (EV Γ below args s w0 ((WT Γ At tby tnu tln tat_z tsr_z ttk_z tnm_z tit tft_z) ++ (WC Γ Ac csw cca csi cab_z cun_z csg cfa che_z cst))) (F0 m 0 ls []) := by
  have hx := X.1
  have hb := X.2.1
  refine lv_aload_n hx hb dX10_takeOver_0 rfl (lv_at hl 0 rfl) ?_
  obtain ⟨tat_1, tsr_2, ttk_3, tnm_4, ho_18, hf⟩ := bd4_some hf
  refine t_v Y (bk Y [0, 1, 2] [3, 4, 5, 6] [4, 5, 6, 0, 1, 2, 3] (wr := [(Ac 0, .inr (1, [.int csw, .int cca, .int csi, .int cab, .int cun, .int csg, .ref (Ac 1), .ref (Ac 2), .ref (Ac 3)])), (Ac 1, .inl (Γ.2.1 0, 48, .inl cfa)), (Ac 2, .inl (Γ.2.1 0, 8, .inl che)), (Ac 3, .inl (Γ.2.1 0, 18, .inl cst))]) (ws' := ((WT Γ At tby tnu tln tat_1 tsr_2 ttk_3 tnm_4 tit tft) ++ (WC Γ Ac csw cca csi cab cun csg cfa che cst))) rfl rfl rfl (by decide) rfl rfl) (r_V (As := []) (rest := []) X (c_pre X Y [0, 1, 2] rfl rfl) (cT_step ho_18) (cwX10_36 X (by decide)) (va_recv X.K Y.1 (q := (RX10, TX10, 9)) (q0 := 0) (ci := 10) rfl rfl) rfl hl.1 (Nat.le_of_ble_eq_true rfl) rfl dX10_takeOver_1 ⟨Nat.zero_le _, Nat.zero_le _⟩) (fun H locs Y => ?_)
  refine lv_aload_n hx hb dX10_takeOver_4 rfl (lv_at hl 0 rfl) ?_
  refine gfX10_39 X Y (v := .int ttk_3) 0 rfl rfl dX10_takeOver_5 ?_
  refine lv_iconst (v := (4 : Int32)) hx hb dX10_takeOver_8 (by decide) ?_
  refine lv_icmp_ne (tgt := 42) hx hb dX10_takeOver_9 (by decide) (fun c_5 => ?_) (fun c_5 => ?_)
  · have hf := ite_f hf c_5
    exact bT_takeOver_42 X hf Y (lv_sub hl [0] rfl)
  · have hf := ite_t hf c_5
    refine lv_aload_n hx hb dX10_takeOver_12 rfl (lv_at hl 1 rfl) ?_
    refine lv_aload_n hx hb dX10_takeOver_13 rfl (lv_at hl 0 rfl) ?_
    refine gfX10_84 X Y (v := .int tnm_4) 0 rfl rfl dX10_takeOver_14 ?_
    refine lv_aload_n hx hb dX10_takeOver_17 rfl (lv_at hl 1 rfl) ?_
    refine gfX10_87 X Y (v := .int cab) 3 rfl rfl dX10_takeOver_18 ?_
    obtain ⟨r_6, ho_17, hf⟩ := bd1_some hf
    refine t_i Y (bkE Y [3, 4, 5, 6] rfl) (r_V (As := [.int tnm_4, .int cab]) (rest := []) X (c_pre X Y [3, 4, 5, 6] rfl rfl) (cC_isTop ho_17) (cwX10_90 X (by decide)) (va_recv X.K Y.1 (q := (RX1, TX1, 9)) (q0 := 3) (ci := 1) rfl rfl) rfl hl.1 (Nat.le_of_ble_eq_true rfl) rfl dX10_takeOver_21 ⟨Nat.zero_le _, Nat.zero_le _⟩) (fun H locs Y => ?_)
    refine lv_if_eq (tgt := 42) hx hb dX10_takeOver_24 (by decide) (fun c_7 => ?_) (fun c_7 => ?_)
    · have hf := ite_t hf c_7
      exact bT_takeOver_42 X hf Y (lv_sub hl [0] rfl)
    · have hf := ite_f hf c_7
      refine lv_aload_n hx hb dX10_takeOver_27 rfl (lv_at hl 1 rfl) ?_
      refine lv_aload_n hx hb dX10_takeOver_28 rfl (lv_at hl 0 rfl) ?_
      refine gfX10_84 X Y (v := .int tnm_4) 0 rfl rfl dX10_takeOver_29 ?_
      obtain ⟨cab_8, cun_9, che_10, ho_16, hf⟩ := bd3_some hf
      refine t_v Y (bk Y [3, 4, 5, 6] [0, 1, 2] [0, 1, 2, 3, 4, 5, 6] (wr := [(At 0, .inr (10, [.ref (At 1), .ref (At 2), .int tln, .int tat_1, .int tsr_2, .int ttk_3, .int tnm_4, .int tit, .int tft])), (At 1, .inl (Γ.2.1 1, 150, .inl tby)), (At 2, .inl (Γ.2.1 0, 6, .inl tnu))]) (ws' := ((WT Γ At tby tnu tln tat_1 tsr_2 ttk_3 tnm_4 tit tft) ++ (WC Γ Ac csw cca csi cab_8 cun_9 csg cfa che_10 cst))) rfl rfl rfl (by decide) rfl rfl) (r_V (As := [.int tnm_4]) (rest := []) X (c_pre X Y [3, 4, 5, 6] rfl rfl) (cC_heave ho_16) (cwX10_94 X (by decide)) (va_recv X.K Y.1 (q := (RX1, TX1, 9)) (q0 := 3) (ci := 1) rfl rfl) rfl hl.1 (Nat.le_of_ble_eq_true rfl) rfl dX10_takeOver_32 ⟨Nat.zero_le _, Nat.zero_le _⟩) (fun H locs Y => ?_)
      refine lv_aload_n hx hb dX10_takeOver_35 rfl (lv_at hl 0 rfl) ?_
      obtain ⟨tat_11, tsr_12, ttk_13, tnm_14, ho_15, hf⟩ := bd4_some hf
      refine t_v Y (bk Y [0, 1, 2] [3, 4, 5, 6] [4, 5, 6, 0, 1, 2, 3] (wr := [(Ac 0, .inr (1, [.int csw, .int cca, .int csi, .int cab_8, .int cun_9, .int csg, .ref (Ac 1), .ref (Ac 2), .ref (Ac 3)])), (Ac 1, .inl (Γ.2.1 0, 48, .inl cfa)), (Ac 2, .inl (Γ.2.1 0, 8, .inl che_10)), (Ac 3, .inl (Γ.2.1 0, 18, .inl cst))]) (ws' := ((WT Γ At tby tnu tln tat_11 tsr_12 ttk_13 tnm_14 tit tft) ++ (WC Γ Ac csw cca csi cab_8 cun_9 csg cfa che_10 cst))) rfl rfl rfl (by decide) rfl rfl) (r_V (As := []) (rest := []) X (c_pre X Y [0, 1, 2] rfl rfl) (cT_step ho_15) (cwX10_36 X (by decide)) (va_recv X.K Y.1 (q := (RX10, TX10, 9)) (q0 := 0) (ci := 10) rfl rfl) rfl hl.1 (Nat.le_of_ble_eq_true rfl) rfl dX10_takeOver_36 ⟨Nat.zero_le _, Nat.zero_le _⟩) (fun H locs Y => ?_)
      refine lv_goto (tgt := 50) hx hb dX10_takeOver_39 (by decide) ?_
      obtain ⟨e90, e91, e92, e93, e94, e95, e96, e97⟩ := sj8 hf
      subst e90
      subst e91
      subst e92
      subst e93
      subst e94
      subst e95
      subst e96
      subst e97
      exact x_vret X Y dX10_takeOver_50
theorem cT_takeOver {l : Launch} {Γ : Gm} {At : Nat → Nat} {Ac : Nat → Nat} {tby : Nat → Int32} {tnu : Nat → Int32} {tln : Int32} {tat : Int32} {tsr : Int32} {ttk : Int32} {tnm : Int32} {tit : Int32} {tft : Int32} {csw : Int32} {cca : Int32} {csi : Int32} {cab : Int32} {cun : Int32} {csg : Int32} {cfa : Nat → Int32} {che : Nat → Int32} {cst : Nat → Int32} {tat_z : Int32} {tsr_z : Int32} {ttk_z : Int32} {tnm_z : Int32} {tft_z : Int32} {cab_z : Int32} {cun_z : Int32} {che_z : Nat → Int32} (h : T_takeOver tby tln tat tsr ttk tnm tft csi cab cun cfa che = some (tat_z, tsr_z, ttk_z, tnm_z, tft_z, cab_z, cun_z, che_z)) : CV l Γ yX10_takeOver (Cond.code yX10_takeOver cX10_takeOver 2 none :: GW) rmT_takeOver [.ref (At 0), .ref (Ac 0)] ((WT Γ At tby tnu tln tat tsr ttk tnm tit tft) ++ (WC Γ Ac csw cca csi cab cun csg cfa che cst)) ((WT Γ At tby tnu tln tat_z tsr_z ttk_z tnm_z tit tft_z) ++ (WC Γ Ac csw cca csi cab_z cun_z csg cfa che_z cst)) := ofBody (Qc := QcV Γ _ _) (by decide) (Nat.le_of_ble_eq_true rfl) (fun p e s m below meth c ls _ X Y hl => bT_takeOver_e X h Y hl)
theorem dmX1_restartV : yX1_restart.cls = RX1 ∧ yX1_restart.cls ≠ "java/lang/invoke/MethodHandle" ∧ yX1_restart.cls ≠ "java/lang/invoke/VarHandle" ∧ (parseMethodDescriptor yX1_restart.desc).map (fun d => d.parameters.length) = some 2 := by decide +kernel
theorem cwX10_59 (X : Cx Γ p s m args meth c RX10 cc nL ret w0) (hR : rmC_restart.frames + 1 ≤ R.frames ∧ 8 + (3 + 11) + rmC_restart.locals ≤ R.locals) : CallW R s args RX10 RX1 59 yX1_restart cX1_restart 3 none (Cond.code yX1_restart cX1_restart 3 none :: GW) rmC_restart 0 0 2 := cw_V X kw454 kw455 kw456 kw228 kw457 dmX1_restartV rfl rfl hR
theorem dmX10_takeNumbersV : yX10_takeNumbers.cls = RX10 ∧ yX10_takeNumbers.cls ≠ "java/lang/invoke/MethodHandle" ∧ yX10_takeNumbers.cls ≠ "java/lang/invoke/VarHandle" ∧ (parseMethodDescriptor yX10_takeNumbers.desc).map (fun d => d.parameters.length) = some 2 := by decide +kernel
theorem cwX10_55_T_takeNumbers2 (X : Cx Γ p s m args meth c RX10 cc nL ret w0) (hR : rmT_takeNumbers2.frames + 1 ≤ R.frames ∧ 8 + (4 + 11) + rmT_takeNumbers2.locals ≤ R.locals) : CallW R s args RX10 RX10 55 yX10_takeNumbers cX10_takeNumbers 4 (some .boolean) (Cond.code yX10_takeNumbers cX10_takeNumbers 4 (some .boolean) :: GW) rmT_takeNumbers2 0 0 2 := cw_V X kw458 kw459 kw460 kw415 kw461 dmX10_takeNumbersV rfl rfl hR
theorem gfX10_65 (X : Cx Γ p s m args meth c RX10 cc nL ret w0) (Y : Wd Γ w0 s ws H locs) {v : Value} (q0 : Nat) {fs : List Value} (he : ws[q0]? = some (a, .inr (1, fs))) (hv : fs[2]? = some v) (hdg : decode cc pc = .ok (.getfield 65, 3)) (kk : W p l e R s m args below meth c H locs cells slots Q (F0 m (pc + 3) ls (v :: rest))) : W p l e R s m args below meth c H locs cells slots Q (F0 m pc ls (.ref a :: rest)) := x_getN X Y iX1 rfl 2 (by decide) rfl kw464 q0 he hv hdg kk
theorem dmX1_loadV : yX1_load.cls = RX1 ∧ yX1_load.cls ≠ "java/lang/invoke/MethodHandle" ∧ yX1_load.cls ≠ "java/lang/invoke/VarHandle" ∧ (parseMethodDescriptor yX1_load.desc).map (fun d => d.parameters.length) = some 1 := by decide +kernel
theorem cwX10_74 (X : Cx Γ p s m args meth c RX10 cc nL ret w0) (hR : rmC_load.frames + 1 ≤ R.frames ∧ 8 + (2 + 11) + rmC_load.locals ≤ R.locals) : CallW R s args RX10 RX1 74 yX1_load cX1_load 2 (some .int) (Cond.code yX1_load cX1_load 2 (some .int) :: GW) rmC_load 0 0 1 := cw_V X kw465 kw466 kw467 kw228 kw468 dmX1_loadV rfl rfl hR
theorem cwX10_55_T_takeNumbers6 (X : Cx Γ p s m args meth c RX10 cc nL ret w0) (hR : rmT_takeNumbers6.frames + 1 ≤ R.frames ∧ 8 + (4 + 11) + rmT_takeNumbers6.locals ≤ R.locals) : CallW R s args RX10 RX10 55 yX10_takeNumbers cX10_takeNumbers 4 (some .boolean) (Cond.code yX10_takeNumbers cX10_takeNumbers 4 (some .boolean) :: GW) rmT_takeNumbers6 0 0 2 := cw_V X kw458 kw459 kw460 kw415 kw461 dmX10_takeNumbersV rfl rfl hR
theorem dmX10_takeOverV : yX10_takeOver.cls = RX10 ∧ yX10_takeOver.cls ≠ "java/lang/invoke/MethodHandle" ∧ yX10_takeOver.cls ≠ "java/lang/invoke/VarHandle" ∧ (parseMethodDescriptor yX10_takeOver.desc).map (fun d => d.parameters.length) = some 1 := by decide +kernel
theorem cwX10_78 (X : Cx Γ p s m args meth c RX10 cc nL ret w0) (hR : rmT_takeOver.frames + 1 ≤ R.frames ∧ 8 + (2 + 11) + rmT_takeOver.locals ≤ R.locals) : CallW R s args RX10 RX10 78 yX10_takeOver cX10_takeOver 2 none (Cond.code yX10_takeOver cX10_takeOver 2 none :: GW) rmT_takeOver 0 0 1 := cw_V X kw471 kw472 kw473 kw415 kw474 dmX10_takeOverV rfl rfl hR
def rmT_readItem : Room := { frames := 8, cells := 0, slots := 0, locals := 170 }
def T_readItem_119 (tby : Nat → Int32) (tnu : Nat → Int32) (tln : Int32) (tat : Int32) (tsr : Int32) (ttk : Int32) (tnm : Int32) (tit : Int32) (tft : Int32) (csw : Int32) (cca : Int32) (csi : Int32) (cab : Int32) (cun : Int32) (csg : Int32) (cfa : Nat → Int32) (che : Nat → Int32) : Option ((Nat → Int32) × Int32 × Int32 × Int32 × Int32 × Int32 × Int32 × Int32 × Int32 × Int32 × Int32 × Int32 × (Nat → Int32) × (Nat → Int32)) := some (tnu, tat, tsr, ttk, tnm, tsr, csw, cca, csi, cab, cun, csg, cfa, che)
set_option maxHeartbeats 4000000 in
set_option maxRecDepth 100000 in
theorem bT_readItem_119 {At : Nat → Nat} {Ac : Nat → Nat} {tby : Nat → Int32} {tnu : Nat → Int32} {tln : Int32} {tat : Int32} {tsr : Int32} {ttk : Int32} {tnm : Int32} {tit : Int32} {tft : Int32} {csw : Int32} {cca : Int32} {csi : Int32} {cab : Int32} {cun : Int32} {csg : Int32} {cfa : Nat → Int32} {che : Nat → Int32} {cst : Nat → Int32} {tnu_z : Nat → Int32} {tat_z : Int32} {tsr_z : Int32} {ttk_z : Int32} {tnm_z : Int32} {tft_z : Int32} {csw_z : Int32} {cca_z : Int32} {csi_z : Int32} {cab_z : Int32} {cun_z : Int32} {csg_z : Int32} {cfa_z : Nat → Int32} {che_z : Nat → Int32} (X : Cx Γ p s m args meth c RX10 cX10_readItem 2 none w0) (hf : T_readItem_119 tby tnu tln tat tsr ttk tnm tit tft csw cca csi cab cun csg cfa che = some (tnu_z, tat_z, tsr_z, ttk_z, tnm_z, tft_z, csw_z, cca_z, csi_z, cab_z, cun_z, csg_z, cfa_z, che_z)) (Y : Wd Γ w0 s ((WT Γ At tby tnu tln tat tsr ttk tnm tit tft) ++ (WC Γ Ac csw cca csi cab cun csg cfa che cst)) H locs) (hl : lv_has ls 2 [(0, .ref (At 0))]) : W p l e rmT_readItem s m args below meth c H locs 0 0 (EV Γ below args s w0 ((WT Γ At tby tnu_z tln tat_z tsr_z ttk_z tnm_z tit tft_z) ++ (WC Γ Ac csw_z cca_z csi_z cab_z cun_z csg_z cfa_z che_z cst))) (F0 m 119 ls []) := by
  have hx := X.1
  have hb := X.2.1
  refine lv_aload_n hx hb dX10_readItem_119 rfl (lv_at hl 0 rfl) ?_
  refine lv_aload_n hx hb dX10_readItem_120 rfl (lv_at hl 0 rfl) ?_
  refine gfX10_81 X Y (v := .int tsr) 0 rfl rfl dX10_readItem_121 ?_
  refine pfX10_33 X Y 0 rfl rfl rfl (Nat.le_of_ble_eq_true rfl) (ws' := ((WT Γ At tby tnu tln tat tsr ttk tnm tit tsr) ++ (WC Γ Ac csw cca csi cab cun csg cfa che cst))) rfl dX10_readItem_124 (fun H locs Y => ?_)
  obtain ⟨e90, e91, e92, e93, e94, e95, e96, e97, e98, e99, e910, e911, e912, e913⟩ := sj14 hf
  subst e90
  subst e91
  subst e92
  subst e93
  subst e94
  subst e95
  subst e96
  subst e97
  subst e98
  subst e99
  subst e910
  subst e911
  subst e912
  subst e913
  exact x_vret X Y dX10_readItem_127
def T_readItem_96 (tby : Nat → Int32) (tnu : Nat → Int32) (tln : Int32) (tat : Int32) (tsr : Int32) (ttk : Int32) (tnm : Int32) (tit : Int32) (tft : Int32) (csw : Int32) (cca : Int32) (csi : Int32) (cab : Int32) (cun : Int32) (csg : Int32) (cfa : Nat → Int32) (che : Nat → Int32) : Option ((Nat → Int32) × Int32 × Int32 × Int32 × Int32 × Int32 × Int32 × Int32 × Int32 × Int32 × Int32 × Int32 × (Nat → Int32) × (Nat → Int32)) := if ttk = (3 : Int32) then (if tit ≤ 0 then (T_readItem_119 tby tnu tln tat tsr ttk tnm tit tft csw cca csi cab cun csg cfa che) else (bd8 (T_takeOver tby tln tat tsr ttk tnm tft csi cab cun cfa che) (fun (tat_3 : Int32) (tsr_4 : Int32) (ttk_5 : Int32) (tnm_6 : Int32) (tft_7 : Int32) (cab_8 : Int32) (cun_9 : Int32) (che_10 : Nat → Int32) => some (tnu, tat_3, tsr_4, ttk_5, tnm_6, tft_7, csw, cca, csi, cab_8, cun_9, csg, cfa, che_10)))) else (T_readItem_119 tby tnu tln tat tsr ttk tnm tit tft csw cca csi cab cun csg cfa che)
set_option maxHeartbeats 4000000 in
set_option maxRecDepth 100000 in
theorem bT_readItem_96 {At : Nat → Nat} {Ac : Nat → Nat} {tby : Nat → Int32} {tnu : Nat → Int32} {tln : Int32} {tat : Int32} {tsr : Int32} {ttk : Int32} {tnm : Int32} {tit : Int32} {tft : Int32} {csw : Int32} {cca : Int32} {csi : Int32} {cab : Int32} {cun : Int32} {csg : Int32} {cfa : Nat → Int32} {che : Nat → Int32} {cst : Nat → Int32} {tnu_z : Nat → Int32} {tat_z : Int32} {tsr_z : Int32} {ttk_z : Int32} {tnm_z : Int32} {tft_z : Int32} {csw_z : Int32} {cca_z : Int32} {csi_z : Int32} {cab_z : Int32} {cun_z : Int32} {csg_z : Int32} {cfa_z : Nat → Int32} {che_z : Nat → Int32} (X : Cx Γ p s m args meth c RX10 cX10_readItem 2 none w0) (hf : T_readItem_96 tby tnu tln tat tsr ttk tnm tit tft csw cca csi cab cun csg cfa che = some (tnu_z, tat_z, tsr_z, ttk_z, tnm_z, tft_z, csw_z, cca_z, csi_z, cab_z, cun_z, csg_z, cfa_z, che_z)) (Y : Wd Γ w0 s ((WT Γ At tby tnu tln tat tsr ttk tnm tit tft) ++ (WC Γ Ac csw cca csi cab cun csg cfa che cst)) H locs) (hl : lv_has ls 2 [(0, .ref (At 0)), (1, .ref (Ac 0))]) : W p l e rmT_readItem s m args below meth c H locs 0 0 (EV Γ below args s w0 ((WT Γ At tby tnu_z tln tat_z tsr_z ttk_z tnm_z tit tft_z) ++ (WC Γ Ac csw_z cca_z csi_z cab_z cun_z csg_z cfa_z che_z cst))) (F0 m 96 ls []) := by
  have hx := X.1
  have hb := X.2.1
  refine lv_aload_n hx hb dX10_readItem_96 rfl (lv_at hl 0 rfl) ?_
  refine gfX10_39 X Y (v := .int ttk) 0 rfl rfl dX10_readItem_97 ?_
  refine lv_iconst (v := (3 : Int32)) hx hb dX10_readItem_100 (by decide) ?_
  refine lv_icmp_ne (tgt := 119) hx hb dX10_readItem_101 (by decide) (fun c_1 => ?_) (fun c_1 => ?_)
  · have hf := ite_f hf c_1
    exact bT_readItem_119 X hf Y (lv_sub hl [0] rfl)
  · have hf := ite_t hf c_1
    refine lv_aload_n hx hb dX10_readItem_104 rfl (lv_at hl 0 rfl) ?_
    refine gfX10_30 X Y (v := .int tit) 0 rfl rfl dX10_readItem_105 ?_
    refine lv_if_le (tgt := 119) hx hb dX10_readItem_108 (by decide) (fun c_2 => ?_) (fun c_2 => ?_)
    · have hf := ite_t hf c_2
      exact bT_readItem_119 X hf Y (lv_sub hl [0] rfl)
    · have hf := ite_f hf c_2
      refine lv_aload_n hx hb dX10_readItem_111 rfl (lv_at hl 0 rfl) ?_
      refine lv_aload_n hx hb dX10_readItem_112 rfl (lv_at hl 1 rfl) ?_
      obtain ⟨tat_3, tsr_4, ttk_5, tnm_6, tft_7, cab_8, cun_9, che_10, ho_11, hf⟩ := bd8_some hf
      refine t_v Y (bkS Y) (r_V (As := [.ref (Ac 0)]) (rest := []) X (c_preS X Y) (cT_takeOver ho_11) (cwX10_78 X (by decide)) (va_recv X.K Y.1 (q := (RX10, TX10, 9)) (q0 := 0) (ci := 10) rfl rfl) rfl hl.1 (Nat.le_of_ble_eq_true rfl) rfl dX10_readItem_113 ⟨Nat.zero_le _, Nat.zero_le _⟩) (fun H locs Y => ?_)
      refine lv_goto (tgt := 127) hx hb dX10_readItem_116 (by decide) ?_
      obtain ⟨e90, e91, e92, e93, e94, e95, e96, e97, e98, e99, e910, e911, e912, e913⟩ := sj14 hf
      subst e90
      subst e91
      subst e92
      subst e93
      subst e94
      subst e95
      subst e96
      subst e97
      subst e98
      subst e99
      subst e910
      subst e911
      subst e912
      subst e913
      exact x_vret X Y dX10_readItem_127
def T_readItem_47 (tby : Nat → Int32) (tnu : Nat → Int32) (tln : Int32) (tat : Int32) (tsr : Int32) (ttk : Int32) (tnm : Int32) (tit : Int32) (tft : Int32) (csw : Int32) (cca : Int32) (csi : Int32) (cab : Int32) (cun : Int32) (csg : Int32) (cfa : Nat → Int32) (che : Nat → Int32) : Option ((Nat → Int32) × Int32 × Int32 × Int32 × Int32 × Int32 × Int32 × Int32 × Int32 × Int32 × Int32 × Int32 × (Nat → Int32) × (Nat → Int32)) := if ttk = (2 : Int32) then (if tit ≤ 0 then (T_readItem_96 tby tnu tln tat tsr ttk tnm tit tft csw cca csi cab cun csg cfa che) else (if (8 : Int32) ≤ csi then (T_readItem_96 tby tnu tln tat tsr ttk tnm tit tft csw cca csi cab cun csg cfa che) else (bd7 (T_takeNumbers6 tby tnu tln tat tsr ttk tnm tft) (fun (r_4 : Int32) (tnu_5 : Nat → Int32) (tat_6 : Int32) (tsr_7 : Int32) (ttk_8 : Int32) (tnm_9 : Int32) (tft_10 : Int32) => if r_4 = 0 then (some (tnu_5, tat_6, tsr_7, ttk_8, tnm_9, tft_10, csw, cca, csi, cab, cun, csg, cfa, che)) else (bd5 (C_load csi cab cun cfa tnu_5) (fun (r_12 : Int32) (csi_13 : Int32) (cab_14 : Int32) (cun_15 : Int32) (cfa_16 : Nat → Int32) => some (tnu_5, tat_6, tsr_7, ttk_8, tnm_9, tft_10, csw, cca, csi_13, cab_14, cun_15, csg, cfa_16, che))))))) else (T_readItem_96 tby tnu tln tat tsr ttk tnm tit tft csw cca csi cab cun csg cfa che)
set_option maxHeartbeats 4000000 in
set_option maxRecDepth 100000 in
theorem bT_readItem_47 {At : Nat → Nat} {Ac : Nat → Nat} {tby : Nat → Int32} {tnu : Nat → Int32} {tln : Int32} {tat : Int32} {tsr : Int32} {ttk : Int32} {tnm : Int32} {tit : Int32} {tft : Int32} {csw : Int32} {cca : Int32} {csi : Int32} {cab : Int32} {cun : Int32} {csg : Int32} {cfa : Nat → Int32} {che : Nat → Int32} {cst : Nat → Int32} {tnu_z : Nat → Int32} {tat_z : Int32} {tsr_z : Int32} {ttk_z : Int32} {tnm_z : Int32} {tft_z : Int32} {csw_z : Int32} {cca_z : Int32} {csi_z : Int32} {cab_z : Int32} {cun_z : Int32} {csg_z : Int32} {cfa_z : Nat → Int32} {che_z : Nat → Int32} (X : Cx Γ p s m args meth c RX10 cX10_readItem 2 none w0) (hf : T_readItem_47 tby tnu tln tat tsr ttk tnm tit tft csw cca csi cab cun csg cfa che = some (tnu_z, tat_z, tsr_z, ttk_z, tnm_z, tft_z, csw_z, cca_z, csi_z, cab_z, cun_z, csg_z, cfa_z, che_z)) (Y : Wd Γ w0 s ((WT Γ At tby tnu tln tat tsr ttk tnm tit tft) ++ (WC Γ Ac csw cca csi cab cun csg cfa che cst)) H locs) (hl : lv_has ls 2 [(0, .ref (At 0)), (1, .ref (Ac 0))]) : W p l e rmT_readItem s m args below meth c H locs 0 0 (EV Γ below args s w0 ((WT Γ At tby tnu_z tln tat_z tsr_z ttk_z tnm_z tit tft_z) ++ (WC Γ Ac csw_z cca_z csi_z cab_z cun_z csg_z cfa_z che_z cst))) (F0 m 47 ls []) := by
  have hx := X.1
  have hb := X.2.1
  refine lv_aload_n hx hb dX10_readItem_47 rfl (lv_at hl 0 rfl) ?_
  refine gfX10_39 X Y (v := .int ttk) 0 rfl rfl dX10_readItem_48 ?_
  refine lv_iconst (v := (2 : Int32)) hx hb dX10_readItem_51 (by decide) ?_
  refine lv_icmp_ne (tgt := 96) hx hb dX10_readItem_52 (by decide) (fun c_1 => ?_) (fun c_1 => ?_)
  · have hf := ite_f hf c_1
    exact bT_readItem_96 X hf Y (lv_sub hl [0, 1] rfl)
  · have hf := ite_t hf c_1
    refine lv_aload_n hx hb dX10_readItem_55 rfl (lv_at hl 0 rfl) ?_
    refine gfX10_30 X Y (v := .int tit) 0 rfl rfl dX10_readItem_56 ?_
    refine lv_if_le (tgt := 96) hx hb dX10_readItem_59 (by decide) (fun c_2 => ?_) (fun c_2 => ?_)
    · have hf := ite_t hf c_2
      exact bT_readItem_96 X hf Y (lv_sub hl [0, 1] rfl)
    · have hf := ite_f hf c_2
      refine lv_aload_n hx hb dX10_readItem_62 rfl (lv_at hl 1 rfl) ?_
      refine gfX10_65 X Y (v := .int csi) 3 rfl rfl dX10_readItem_63 ?_
      refine lv_bipush (v := (8 : Int32)) hx hb dX10_readItem_66 (by decide) ?_
      refine lv_icmp_ge (tgt := 96) hx hb dX10_readItem_68 (by decide) (fun c_3 => ?_) (fun c_3 => ?_)
      · have hf := ite_t hf c_3
        exact bT_readItem_96 X hf Y (lv_sub hl [0, 1] rfl)
      · have hf := ite_f hf c_3
        refine lv_aload_n hx hb dX10_readItem_71 rfl (lv_at hl 0 rfl) ?_
        refine x_getsN X Y 2 (q := ("GOODS_LEAST", [0, 0, 0, 1, 0, 0])) rfl kw470 dX10_readItem_72 ?_
        refine x_getsN X Y 3 (q := ("GOODS_MOST", [5, 3, 2, 40, 60, 60])) rfl kw469 dX10_readItem_75 ?_
        obtain ⟨r_4, tnu_5, tat_6, tsr_7, ttk_8, tnm_9, tft_10, ho_18, hf⟩ := bd7_some hf
        refine t_i Y (bk Y [0, 1, 2] [3, 4, 5, 6] [4, 5, 6, 0, 1, 2, 3] (wr := [(Ac 0, .inr (1, [.int csw, .int cca, .int csi, .int cab, .int cun, .int csg, .ref (Ac 1), .ref (Ac 2), .ref (Ac 3)])), (Ac 1, .inl (Γ.2.1 0, 48, .inl cfa)), (Ac 2, .inl (Γ.2.1 0, 8, .inl che)), (Ac 3, .inl (Γ.2.1 0, 18, .inl cst))]) (ws' := ((WT Γ At tby tnu_5 tln tat_6 tsr_7 ttk_8 tnm_9 tit tft_10) ++ (WC Γ Ac csw cca csi cab cun csg cfa che cst))) rfl rfl rfl (by decide) rfl rfl) (r_V (As := [.ref (Γ.2.2 2), .ref (Γ.2.2 3)]) (rest := []) X (c_pre X Y [0, 1, 2] rfl rfl) (cT_takeNumbers6 ho_18) (cwX10_55_T_takeNumbers6 X (by decide)) (va_recv X.K Y.1 (q := (RX10, TX10, 9)) (q0 := 0) (ci := 10) rfl rfl) rfl hl.1 (Nat.le_of_ble_eq_true rfl) rfl dX10_readItem_78 ⟨Nat.zero_le _, Nat.zero_le _⟩) (fun H locs Y => ?_)
        refine lv_if_eq (tgt := 127) hx hb dX10_readItem_81 (by decide) (fun c_11 => ?_) (fun c_11 => ?_)
        · have hf := ite_t hf c_11
          obtain ⟨e90, e91, e92, e93, e94, e95, e96, e97, e98, e99, e910, e911, e912, e913⟩ := sj14 hf
          subst e90
          subst e91
          subst e92
          subst e93
          subst e94
          subst e95
          subst e96
          subst e97
          subst e98
          subst e99
          subst e910
          subst e911
          subst e912
          subst e913
          exact x_vret X Y dX10_readItem_127
        · have hf := ite_f hf c_11
          refine lv_aload_n hx hb dX10_readItem_84 rfl (lv_at hl 1 rfl) ?_
          refine lv_aload_n hx hb dX10_readItem_85 rfl (lv_at hl 0 rfl) ?_
          refine gfX10_15 X Y (v := .ref (At 2)) 0 rfl rfl dX10_readItem_86 ?_
          obtain ⟨r_12, csi_13, cab_14, cun_15, cfa_16, ho_17, hf⟩ := bd5_some hf
          refine t_i Y (bk Y [3, 4, 5, 6, 2] [0, 1] [0, 1, 6, 2, 3, 4, 5] (wr := [(At 0, .inr (10, [.ref (At 1), .ref (At 2), .int tln, .int tat_6, .int tsr_7, .int ttk_8, .int tnm_9, .int tit, .int tft_10])), (At 1, .inl (Γ.2.1 1, 150, .inl tby))]) (ws' := ((WT Γ At tby tnu_5 tln tat_6 tsr_7 ttk_8 tnm_9 tit tft_10) ++ (WC Γ Ac csw cca csi_13 cab_14 cun_15 csg cfa_16 che cst))) rfl rfl rfl (by decide) rfl rfl) (r_V (As := [.ref (At 2)]) (rest := []) X (c_pre X Y [3, 4, 5, 6, 2] rfl rfl) (cC_load (Ar := fun _ => At 2) ho_17) (cwX10_74 X (by decide)) (va_recv X.K Y.1 (q := (RX1, TX1, 9)) (q0 := 3) (ci := 1) rfl rfl) rfl hl.1 (Nat.le_of_ble_eq_true rfl) rfl dX10_readItem_89 ⟨Nat.zero_le _, Nat.zero_le _⟩) (fun H locs Y => ?_)
          refine lv_pop hx hb dX10_readItem_92 rfl ?_
          refine lv_goto (tgt := 127) hx hb dX10_readItem_93 (by decide) ?_
          obtain ⟨e90, e91, e92, e93, e94, e95, e96, e97, e98, e99, e910, e911, e912, e913⟩ := sj14 hf
          subst e90
          subst e91
          subst e92
          subst e93
          subst e94
          subst e95
          subst e96
          subst e97
          subst e98
          subst e99
          subst e910
          subst e911
          subst e912
          subst e913
          exact x_vret X Y dX10_readItem_127
def T_readItem (tby : Nat → Int32) (tnu : Nat → Int32) (tln : Int32) (tat : Int32) (tsr : Int32) (ttk : Int32) (tnm : Int32) (tit : Int32) (tft : Int32) (csw : Int32) (cca : Int32) (csi : Int32) (cab : Int32) (cun : Int32) (csg : Int32) (cfa : Nat → Int32) (che : Nat → Int32) : Option ((Nat → Int32) × Int32 × Int32 × Int32 × Int32 × Int32 × Int32 × Int32 × Int32 × Int32 × Int32 × Int32 × (Nat → Int32) × (Nat → Int32)) := if ttk = (1 : Int32) then (if tit = 0 then (bd7 (T_takeNumbers2 tby tnu tln tat tsr ttk tnm tft) (fun (r_3 : Int32) (tnu_4 : Nat → Int32) (tat_5 : Int32) (tsr_6 : Int32) (ttk_7 : Int32) (tnm_8 : Int32) (tft_9 : Int32) => if r_3 = 0 then (some (tnu_4, tat_5, tsr_6, ttk_7, tnm_8, tft_9, csw, cca, csi, cab, cun, csg, cfa, che)) else (bd6 (C_restart (tnu_4 0) (tnu_4 1) csw cca csi cab cun csg) (fun (csw_11 : Int32) (cca_12 : Int32) (csi_13 : Int32) (cab_14 : Int32) (cun_15 : Int32) (csg_16 : Int32) => some (tnu_4, tat_5, tsr_6, ttk_7, tnm_8, tft_9, csw_11, cca_12, csi_13, cab_14, cun_15, csg_16, cfa, che))))) else (T_readItem_47 tby tnu tln tat tsr ttk tnm tit tft csw cca csi cab cun csg cfa che)) else (T_readItem_47 tby tnu tln tat tsr ttk tnm tit tft csw cca csi cab cun csg cfa che)
set_option maxHeartbeats 4000000 in
set_option maxRecDepth 100000 in
theorem bT_readItem_e {At : Nat → Nat} {Ac : Nat → Nat} {tby : Nat → Int32} {tnu : Nat → Int32} {tln : Int32} {tat : Int32} {tsr : Int32} {ttk : Int32} {tnm : Int32} {tit : Int32} {tft : Int32} {csw : Int32} {cca : Int32} {csi : Int32} {cab : Int32} {cun : Int32} {csg : Int32} {cfa : Nat → Int32} {che : Nat → Int32} {cst : Nat → Int32} {tnu_z : Nat → Int32} {tat_z : Int32} {tsr_z : Int32} {ttk_z : Int32} {tnm_z : Int32} {tft_z : Int32} {csw_z : Int32} {cca_z : Int32} {csi_z : Int32} {cab_z : Int32} {cun_z : Int32} {csg_z : Int32} {cfa_z : Nat → Int32} {che_z : Nat → Int32} (X : Cx Γ p s m args meth c RX10 cX10_readItem 2 none w0) (hf : T_readItem tby tnu tln tat tsr ttk tnm tit tft csw cca csi cab cun csg cfa che = some (tnu_z, tat_z, tsr_z, ttk_z, tnm_z, tft_z, csw_z, cca_z, csi_z, cab_z, cun_z, csg_z, cfa_z, che_z)) (Y : Wd Γ w0 s ((WT Γ At tby tnu tln tat tsr ttk tnm tit tft) ++ (WC Γ Ac csw cca csi cab cun csg cfa che cst)) H locs) (hl : lv_has ls 2 [(0, .ref (At 0)), (1, .ref (Ac 0))]) : W p l e rmT_readItem s m args below meth c H locs 0 0 (EV Γ below args s w0 ((WT Γ At tby tnu_z tln tat_z tsr_z ttk_z tnm_z tit tft_z) ++ (WC Γ Ac csw_z cca_z csi_z cab_z cun_z csg_z cfa_z che_z cst))) (F0 m 0 ls []) := by
  have hx := X.1
  have hb := X.2.1
  refine lv_aload_n hx hb dX10_readItem_0 rfl (lv_at hl 0 rfl) ?_
  refine gfX10_39 X Y (v := .int ttk) 0 rfl rfl dX10_readItem_1 ?_
  refine lv_iconst (v := (1 : Int32)) hx hb dX10_readItem_4 (by decide) ?_
  refine lv_icmp_ne (tgt := 47) hx hb dX10_readItem_5 (by decide) (fun c_1 => ?_) (fun c_1 => ?_)
  · have hf := ite_f hf c_1
    exact bT_readItem_47 X hf Y (lv_sub hl [0, 1] rfl)
  · have hf := ite_t hf c_1
    refine lv_aload_n hx hb dX10_readItem_8 rfl (lv_at hl 0 rfl) ?_
    refine gfX10_30 X Y (v := .int tit) 0 rfl rfl dX10_readItem_9 ?_
    refine lv_if_ne (tgt := 47) hx hb dX10_readItem_12 (by decide) (fun c_2 => ?_) (fun c_2 => ?_)
    · have hf := ite_f hf c_2
      exact bT_readItem_47 X hf Y (lv_sub hl [0, 1] rfl)
    · have hf := ite_t hf c_2
      refine lv_aload_n hx hb dX10_readItem_15 rfl (lv_at hl 0 rfl) ?_
      refine x_getsN X Y 0 (q := ("SHIP_LEAST", [0, 0])) rfl kw463 dX10_readItem_16 ?_
      refine x_getsN X Y 1 (q := ("SHIP_MOST", [99, 200])) rfl kw462 dX10_readItem_19 ?_
      obtain ⟨r_3, tnu_4, tat_5, tsr_6, ttk_7, tnm_8, tft_9, ho_18, hf⟩ := bd7_some hf
      refine t_i Y (bk Y [0, 1, 2] [3, 4, 5, 6] [4, 5, 6, 0, 1, 2, 3] (wr := [(Ac 0, .inr (1, [.int csw, .int cca, .int csi, .int cab, .int cun, .int csg, .ref (Ac 1), .ref (Ac 2), .ref (Ac 3)])), (Ac 1, .inl (Γ.2.1 0, 48, .inl cfa)), (Ac 2, .inl (Γ.2.1 0, 8, .inl che)), (Ac 3, .inl (Γ.2.1 0, 18, .inl cst))]) (ws' := ((WT Γ At tby tnu_4 tln tat_5 tsr_6 ttk_7 tnm_8 tit tft_9) ++ (WC Γ Ac csw cca csi cab cun csg cfa che cst))) rfl rfl rfl (by decide) rfl rfl) (r_V (As := [.ref (Γ.2.2 0), .ref (Γ.2.2 1)]) (rest := []) X (c_pre X Y [0, 1, 2] rfl rfl) (cT_takeNumbers2 ho_18) (cwX10_55_T_takeNumbers2 X (by decide)) (va_recv X.K Y.1 (q := (RX10, TX10, 9)) (q0 := 0) (ci := 10) rfl rfl) rfl hl.1 (Nat.le_of_ble_eq_true rfl) rfl dX10_readItem_22 ⟨Nat.zero_le _, Nat.zero_le _⟩) (fun H locs Y => ?_)
      refine lv_if_eq (tgt := 127) hx hb dX10_readItem_25 (by decide) (fun c_10 => ?_) (fun c_10 => ?_)
      · have hf := ite_t hf c_10
        obtain ⟨e90, e91, e92, e93, e94, e95, e96, e97, e98, e99, e910, e911, e912, e913⟩ := sj14 hf
        subst e90
        subst e91
        subst e92
        subst e93
        subst e94
        subst e95
        subst e96
        subst e97
        subst e98
        subst e99
        subst e910
        subst e911
        subst e912
        subst e913
        exact x_vret X Y dX10_readItem_127
      · have hf := ite_f hf c_10
        refine lv_aload_n hx hb dX10_readItem_28 rfl (lv_at hl 1 rfl) ?_
        refine lv_aload_n hx hb dX10_readItem_29 rfl (lv_at hl 0 rfl) ?_
        refine gfX10_15 X Y (v := .ref (At 2)) 0 rfl rfl dX10_readItem_30 ?_
        refine lv_iconst (v := (0 : Int32)) hx hb dX10_readItem_33 (by decide) ?_
        refine x_iald X Y 2 rfl (j := 0) rfl rfl dX10_readItem_34 ?_
        refine lv_aload_n hx hb dX10_readItem_35 rfl (lv_at hl 0 rfl) ?_
        refine gfX10_15 X Y (v := .ref (At 2)) 0 rfl rfl dX10_readItem_36 ?_
        refine lv_iconst (v := (1 : Int32)) hx hb dX10_readItem_39 (by decide) ?_
        refine x_iald X Y 2 rfl (j := 1) rfl rfl dX10_readItem_40 ?_
        obtain ⟨csw_11, cca_12, csi_13, cab_14, cun_15, csg_16, ho_17, hf⟩ := bd6_some hf
        refine t_v Y (bk Y [3, 4, 5, 6] [0, 1, 2] [0, 1, 2, 3, 4, 5, 6] (wr := [(At 0, .inr (10, [.ref (At 1), .ref (At 2), .int tln, .int tat_5, .int tsr_6, .int ttk_7, .int tnm_8, .int tit, .int tft_9])), (At 1, .inl (Γ.2.1 1, 150, .inl tby)), (At 2, .inl (Γ.2.1 0, 6, .inl tnu_4))]) (ws' := ((WT Γ At tby tnu_4 tln tat_5 tsr_6 ttk_7 tnm_8 tit tft_9) ++ (WC Γ Ac csw_11 cca_12 csi_13 cab_14 cun_15 csg_16 cfa che cst))) rfl rfl rfl (by decide) rfl rfl) (r_V (As := [.int (tnu_4 0), .int (tnu_4 1)]) (rest := []) X (c_pre X Y [3, 4, 5, 6] rfl rfl) (cC_restart ho_17) (cwX10_59 X (by decide)) (va_recv X.K Y.1 (q := (RX1, TX1, 9)) (q0 := 3) (ci := 1) rfl rfl) rfl hl.1 (Nat.le_of_ble_eq_true rfl) rfl dX10_readItem_41 ⟨Nat.zero_le _, Nat.zero_le _⟩) (fun H locs Y => ?_)
        refine lv_goto (tgt := 127) hx hb dX10_readItem_44 (by decide) ?_
        obtain ⟨e90, e91, e92, e93, e94, e95, e96, e97, e98, e99, e910, e911, e912, e913⟩ := sj14 hf
        subst e90
        subst e91
        subst e92
        subst e93
        subst e94
        subst e95
        subst e96
        subst e97
        subst e98
        subst e99
        subst e910
        subst e911
        subst e912
        subst e913
        exact x_vret X Y dX10_readItem_127
theorem cT_readItem {l : Launch} {Γ : Gm} {At : Nat → Nat} {Ac : Nat → Nat} {tby : Nat → Int32} {tnu : Nat → Int32} {tln : Int32} {tat : Int32} {tsr : Int32} {ttk : Int32} {tnm : Int32} {tit : Int32} {tft : Int32} {csw : Int32} {cca : Int32} {csi : Int32} {cab : Int32} {cun : Int32} {csg : Int32} {cfa : Nat → Int32} {che : Nat → Int32} {cst : Nat → Int32} {tnu_z : Nat → Int32} {tat_z : Int32} {tsr_z : Int32} {ttk_z : Int32} {tnm_z : Int32} {tft_z : Int32} {csw_z : Int32} {cca_z : Int32} {csi_z : Int32} {cab_z : Int32} {cun_z : Int32} {csg_z : Int32} {cfa_z : Nat → Int32} {che_z : Nat → Int32} (h : T_readItem tby tnu tln tat tsr ttk tnm tit tft csw cca csi cab cun csg cfa che = some (tnu_z, tat_z, tsr_z, ttk_z, tnm_z, tft_z, csw_z, cca_z, csi_z, cab_z, cun_z, csg_z, cfa_z, che_z)) : CV l Γ yX10_readItem (Cond.code yX10_readItem cX10_readItem 2 none :: GW) rmT_readItem [.ref (At 0), .ref (Ac 0)] ((WT Γ At tby tnu tln tat tsr ttk tnm tit tft) ++ (WC Γ Ac csw cca csi cab cun csg cfa che cst)) ((WT Γ At tby tnu_z tln tat_z tsr_z ttk_z tnm_z tit tft_z) ++ (WC Γ Ac csw_z cca_z csi_z cab_z cun_z csg_z cfa_z che_z cst)) := ofBody (Qc := QcV Γ _ _) (by decide) (Nat.le_of_ble_eq_true rfl) (fun p e s m below meth c ls _ X Y hl => bT_readItem_e X h Y hl)
theorem dmX10_takeStopV : yX10_takeStop.cls = RX10 ∧ yX10_takeStop.cls ≠ "java/lang/invoke/MethodHandle" ∧ yX10_takeStop.cls ≠ "java/lang/invoke/VarHandle" ∧ (parseMethodDescriptor yX10_takeStop.desc).map (fun d => d.parameters.length) = some 0 := by decide +kernel
theorem cwX10_46 (X : Cx Γ p s m args meth c RX10 cc nL ret w0) (hR : rmT_takeStop.frames + 1 ≤ R.frames ∧ 8 + (1 + 11) + rmT_takeStop.locals ≤ R.locals) : CallW R s args RX10 RX10 46 yX10_takeStop cX10_takeStop 1 none (Cond.code yX10_takeStop cX10_takeStop 1 none :: GW) rmT_takeStop 0 0 0 := cw_V X kw475 kw476 kw477 kw415 kw478 dmX10_takeStopV rfl rfl hR
theorem dmX10_readItemV : yX10_readItem.cls = RX10 ∧ yX10_readItem.cls ≠ "java/lang/invoke/MethodHandle" ∧ yX10_readItem.cls ≠ "java/lang/invoke/VarHandle" ∧ (parseMethodDescriptor yX10_readItem.desc).map (fun d => d.parameters.length) = some 1 := by decide +kernel
theorem cwX10_42 (X : Cx Γ p s m args meth c RX10 cc nL ret w0) (hR : rmT_readItem.frames + 1 ≤ R.frames ∧ 8 + (2 + 11) + rmT_readItem.locals ≤ R.locals) : CallW R s args RX10 RX10 42 yX10_readItem cX10_readItem 2 none (Cond.code yX10_readItem cX10_readItem 2 none :: GW) rmT_readItem 0 0 1 := cw_V X kw479 kw480 kw481 kw415 kw482 dmX10_readItemV rfl rfl hR
def rmT_readInto : Room := { frames := 9, cells := 0, slots := 0, locals := 191 }
def T_readInto_50 (rc21 : Int32 → (Nat → Int32) → (Nat → Int32) → Int32 → Int32 → Int32 → Int32 → Int32 → Int32 → Int32 → Int32 → Int32 → Int32 → Int32 → Int32 → Int32 → (Nat → Int32) → (Nat → Int32) → Option (Int32 × (Nat → Int32) × Int32 × Int32 × Int32 × Int32 × Int32 × Int32 × Int32 × Int32 × Int32 × Int32 × Int32 × Int32 × (Nat → Int32) × (Nat → Int32))) (x2 : Int32) (tby : Nat → Int32) (tnu : Nat → Int32) (tln : Int32) (tat : Int32) (tsr : Int32) (ttk : Int32) (tnm : Int32) (tit : Int32) (tft : Int32) (csw : Int32) (cca : Int32) (csi : Int32) (cab : Int32) (cun : Int32) (csg : Int32) (cfa : Nat → Int32) (che : Nat → Int32) : Option (Int32 × (Nat → Int32) × Int32 × Int32 × Int32 × Int32 × Int32 × Int32 × Int32 × Int32 × Int32 × Int32 × Int32 × Int32 × (Nat → Int32) × (Nat → Int32)) := bd14 (T_readItem tby tnu tln tat tsr ttk tnm tit tft csw cca csi cab cun csg cfa che) (fun (tnu_1 : Nat → Int32) (tat_2 : Int32) (tsr_3 : Int32) (ttk_4 : Int32) (tnm_5 : Int32) (tft_6 : Int32) (csw_7 : Int32) (cca_8 : Int32) (csi_9 : Int32) (cab_10 : Int32) (cun_11 : Int32) (csg_12 : Int32) (cfa_13 : Nat → Int32) (che_14 : Nat → Int32) => bd6 (T_takeStop tby tln tat_2 tsr_3 ttk_4 tnm_5 tit tft_6) (fun (tat_15 : Int32) (tsr_16 : Int32) (ttk_17 : Int32) (tnm_18 : Int32) (tit_19 : Int32) (tft_20 : Int32) => bnd (x2 + (1 : Int32)) (fun (x2_21 : Int32) => rc21 x2_21 tby tnu_1 tln tat_15 tsr_16 ttk_17 tnm_18 tit_19 tft_20 csw_7 cca_8 csi_9 cab_10 cun_11 csg_12 cfa_13 che_14)))
set_option maxHeartbeats 4000000 in
set_option maxRecDepth 100000 in
theorem bT_readInto_50 {At : Nat → Nat} {Ac : Nat → Nat} {tby : Nat → Int32} {tnu : Nat → Int32} {tln : Int32} {tat : Int32} {tsr : Int32} {ttk : Int32} {tnm : Int32} {tit : Int32} {tft : Int32} {csw : Int32} {cca : Int32} {csi : Int32} {cab : Int32} {cun : Int32} {csg : Int32} {cfa : Nat → Int32} {che : Nat → Int32} {cst : Nat → Int32} {tnu_z : Nat → Int32} {tat_z : Int32} {tsr_z : Int32} {ttk_z : Int32} {tnm_z : Int32} {tit_z : Int32} {tft_z : Int32} {csw_z : Int32} {cca_z : Int32} {csi_z : Int32} {cab_z : Int32} {cun_z : Int32} {csg_z : Int32} {cfa_z : Nat → Int32} {che_z : Nat → Int32} {r0 : Int32} {x2 : Int32} {rc21 : Int32 → (Nat → Int32) → (Nat → Int32) → Int32 → Int32 → Int32 → Int32 → Int32 → Int32 → Int32 → Int32 → Int32 → Int32 → Int32 → Int32 → Int32 → (Nat → Int32) → (Nat → Int32) → Option (Int32 × (Nat → Int32) × Int32 × Int32 × Int32 × Int32 × Int32 × Int32 × Int32 × Int32 × Int32 × Int32 × Int32 × Int32 × (Nat → Int32) × (Nat → Int32))} (X : Cx Γ p s m args meth c RX10 cX10_readInto 3 (some .int) w0) (h21 : ∀ (x2 : Int32) (tby : Nat → Int32) (tnu : Nat → Int32) (tln : Int32) (tat : Int32) (tsr : Int32) (ttk : Int32) (tnm : Int32) (tit : Int32) (tft : Int32) (csw : Int32) (cca : Int32) (csi : Int32) (cab : Int32) (cun : Int32) (csg : Int32) (cfa : Nat → Int32) (che : Nat → Int32), rc21 x2 tby tnu tln tat tsr ttk tnm tit tft csw cca csi cab cun csg cfa che = some (r0, tnu_z, tat_z, tsr_z, ttk_z, tnm_z, tit_z, tft_z, csw_z, cca_z, csi_z, cab_z, cun_z, csg_z, cfa_z, che_z) → ∀ (H : Heap) (locs : List Loc) (ls : Array Slot), Wd Γ w0 s ((WT Γ At tby tnu tln tat tsr ttk tnm tit tft) ++ (WC Γ Ac csw cca csi cab cun csg cfa che cst)) H locs → lv_has ls 3 [(0, .ref (At 0)), (1, .ref (Ac 0)), (2, .int x2)] → W p l e rmT_readInto s m args below meth c H locs 0 0 (EI Γ below args s w0 ((WT Γ At tby tnu_z tln tat_z tsr_z ttk_z tnm_z tit_z tft_z) ++ (WC Γ Ac csw_z cca_z csi_z cab_z cun_z csg_z cfa_z che_z cst)) r0) (F0 m 21 ls [])) (hf : T_readInto_50 rc21 x2 tby tnu tln tat tsr ttk tnm tit tft csw cca csi cab cun csg cfa che = some (r0, tnu_z, tat_z, tsr_z, ttk_z, tnm_z, tit_z, tft_z, csw_z, cca_z, csi_z, cab_z, cun_z, csg_z, cfa_z, che_z)) (Y : Wd Γ w0 s ((WT Γ At tby tnu tln tat tsr ttk tnm tit tft) ++ (WC Γ Ac csw cca csi cab cun csg cfa che cst)) H locs) (hl : lv_has ls 3 [(0, .ref (At 0)), (1, .ref (Ac 0)), (2, .int x2)]) : W p l e rmT_readInto s m args below meth c H locs 0 0 (EI Γ below args s w0 ((WT Γ At tby tnu_z tln tat_z tsr_z ttk_z tnm_z tit_z tft_z) ++ (WC Γ Ac csw_z cca_z csi_z cab_z cun_z csg_z cfa_z che_z cst)) r0) (F0 m 50 ls []) := by
  have hx := X.1
  have hb := X.2.1
  refine lv_aload_n hx hb dX10_readInto_50 rfl (lv_at hl 0 rfl) ?_
  refine lv_aload_n hx hb dX10_readInto_51 rfl (lv_at hl 1 rfl) ?_
  obtain ⟨tnu_1, tat_2, tsr_3, ttk_4, tnm_5, tft_6, csw_7, cca_8, csi_9, cab_10, cun_11, csg_12, cfa_13, che_14, ho_23, hf⟩ := bd14_some hf
  refine t_v Y (bkS Y) (r_V (As := [.ref (Ac 0)]) (rest := []) X (c_preS X Y) (cT_readItem ho_23) (cwX10_42 X (by decide)) (va_recv X.K Y.1 (q := (RX10, TX10, 9)) (q0 := 0) (ci := 10) rfl rfl) rfl hl.1 (Nat.le_of_ble_eq_true rfl) rfl dX10_readInto_52 ⟨Nat.zero_le _, Nat.zero_le _⟩) (fun H locs Y => ?_)
  refine lv_aload_n hx hb dX10_readInto_55 rfl (lv_at hl 0 rfl) ?_
  obtain ⟨tat_15, tsr_16, ttk_17, tnm_18, tit_19, tft_20, ho_22, hf⟩ := bd6_some hf
  refine t_v Y (bk Y [0, 1, 2] [3, 4, 5, 6] [4, 5, 6, 0, 1, 2, 3] (wr := [(Ac 0, .inr (1, [.int csw_7, .int cca_8, .int csi_9, .int cab_10, .int cun_11, .int csg_12, .ref (Ac 1), .ref (Ac 2), .ref (Ac 3)])), (Ac 1, .inl (Γ.2.1 0, 48, .inl cfa_13)), (Ac 2, .inl (Γ.2.1 0, 8, .inl che_14)), (Ac 3, .inl (Γ.2.1 0, 18, .inl cst))]) (ws' := ((WT Γ At tby tnu_1 tln tat_15 tsr_16 ttk_17 tnm_18 tit_19 tft_20) ++ (WC Γ Ac csw_7 cca_8 csi_9 cab_10 cun_11 csg_12 cfa_13 che_14 cst))) rfl rfl rfl (by decide) rfl rfl) (r_V (As := []) (rest := []) X (c_pre X Y [0, 1, 2] rfl rfl) (cT_takeStop ho_22) (cwX10_46 X (by decide)) (va_recv X.K Y.1 (q := (RX10, TX10, 9)) (q0 := 0) (ci := 10) rfl rfl) rfl hl.1 (Nat.le_of_ble_eq_true rfl) rfl dX10_readInto_56 ⟨Nat.zero_le _, Nat.zero_le _⟩) (fun H locs Y => ?_)
  obtain ⟨x2_21, e_x2_21⟩ : ∃ z : Int32, z = (x2 + (1 : Int32)) := ⟨_, rfl⟩
  have hf := bnd_eq hf e_x2_21
  refine lv_iinc (v := x2_21) (lv' := [(2, .int x2_21), (0, .ref (At 0)), (1, .ref (Ac 0))]) hx hb dX10_readInto_59 hl (k := 2) rfl (by rw [e_x2_21]; rfl) (by decide) rfl (fun ls hl => ?_)
  refine lv_goto (tgt := 21) hx hb dX10_readInto_62 (by decide) ?_
  exact h21 _ _ _ _ _ _ _ _ _ _ _ _ _ _ _ _ _ _ hf _ _ _ Y (lv_sub hl [1, 2, 0] rfl)
def T_readInto_65 (tby : Nat → Int32) (tnu : Nat → Int32) (tln : Int32) (tat : Int32) (tsr : Int32) (ttk : Int32) (tnm : Int32) (tit : Int32) (tft : Int32) (csw : Int32) (cca : Int32) (csi : Int32) (cab : Int32) (cun : Int32) (csg : Int32) (cfa : Nat → Int32) (che : Nat → Int32) : Option (Int32 × (Nat → Int32) × Int32 × Int32 × Int32 × Int32 × Int32 × Int32 × Int32 × Int32 × Int32 × Int32 × Int32 × Int32 × (Nat → Int32) × (Nat → Int32)) := if tft = (-1 : Int32) then (some (tit, tnu, tat, tsr, ttk, tnm, tit, tft, csw, cca, csi, cab, cun, csg, cfa, che)) else (some (((-10 : Int32) - tft), tnu, tat, tsr, ttk, tnm, tit, tft, csw, cca, csi, cab, cun, csg, cfa, che))
set_option maxHeartbeats 4000000 in
set_option maxRecDepth 100000 in
theorem bT_readInto_65 {At : Nat → Nat} {Ac : Nat → Nat} {tby : Nat → Int32} {tnu : Nat → Int32} {tln : Int32} {tat : Int32} {tsr : Int32} {ttk : Int32} {tnm : Int32} {tit : Int32} {tft : Int32} {csw : Int32} {cca : Int32} {csi : Int32} {cab : Int32} {cun : Int32} {csg : Int32} {cfa : Nat → Int32} {che : Nat → Int32} {cst : Nat → Int32} {tnu_z : Nat → Int32} {tat_z : Int32} {tsr_z : Int32} {ttk_z : Int32} {tnm_z : Int32} {tit_z : Int32} {tft_z : Int32} {csw_z : Int32} {cca_z : Int32} {csi_z : Int32} {cab_z : Int32} {cun_z : Int32} {csg_z : Int32} {cfa_z : Nat → Int32} {che_z : Nat → Int32} {r0 : Int32} (X : Cx Γ p s m args meth c RX10 cX10_readInto 3 (some .int) w0) (hf : T_readInto_65 tby tnu tln tat tsr ttk tnm tit tft csw cca csi cab cun csg cfa che = some (r0, tnu_z, tat_z, tsr_z, ttk_z, tnm_z, tit_z, tft_z, csw_z, cca_z, csi_z, cab_z, cun_z, csg_z, cfa_z, che_z)) (Y : Wd Γ w0 s ((WT Γ At tby tnu tln tat tsr ttk tnm tit tft) ++ (WC Γ Ac csw cca csi cab cun csg cfa che cst)) H locs) (hl : lv_has ls 3 [(0, .ref (At 0))]) : W p l e rmT_readInto s m args below meth c H locs 0 0 (EI Γ below args s w0 ((WT Γ At tby tnu_z tln tat_z tsr_z ttk_z tnm_z tit_z tft_z) ++ (WC Γ Ac csw_z cca_z csi_z cab_z cun_z csg_z cfa_z che_z cst)) r0) (F0 m 65 ls []) := by
  have hx := X.1
  have hb := X.2.1
  refine lv_aload_n hx hb dX10_readInto_65 rfl (lv_at hl 0 rfl) ?_
  refine gfX10_33 X Y (v := .int tft) 0 rfl rfl dX10_readInto_66 ?_
  refine lv_iconst (v := (-1 : Int32)) hx hb dX10_readInto_69 (by decide) ?_
  refine lv_icmp_ne (tgt := 80) hx hb dX10_readInto_70 (by decide) (fun c_1 => ?_) (fun c_1 => ?_)
  · have hf := ite_f hf c_1
    refine lv_bipush (v := (-10 : Int32)) hx hb dX10_readInto_80 (by decide) ?_
    refine lv_aload_n hx hb dX10_readInto_82 rfl (lv_at hl 0 rfl) ?_
    refine gfX10_33 X Y (v := .int tft) 0 rfl rfl dX10_readInto_83 ?_
    refine lv_isub hx hb dX10_readInto_86 ?_
    obtain ⟨e90, e91, e92, e93, e94, e95, e96, e97, e98, e99, e910, e911, e912, e913, e914, e915⟩ := sj16 hf
    subst e90
    subst e91
    subst e92
    subst e93
    subst e94
    subst e95
    subst e96
    subst e97
    subst e98
    subst e99
    subst e910
    subst e911
    subst e912
    subst e913
    subst e914
    subst e915
    exact x_iret X Y dX10_readInto_87
  · have hf := ite_t hf c_1
    refine lv_aload_n hx hb dX10_readInto_73 rfl (lv_at hl 0 rfl) ?_
    refine gfX10_30 X Y (v := .int tit) 0 rfl rfl dX10_readInto_74 ?_
    refine lv_goto (tgt := 87) hx hb dX10_readInto_77 (by decide) ?_
    obtain ⟨e90, e91, e92, e93, e94, e95, e96, e97, e98, e99, e910, e911, e912, e913, e914, e915⟩ := sj16 hf
    subst e90
    subst e91
    subst e92
    subst e93
    subst e94
    subst e95
    subst e96
    subst e97
    subst e98
    subst e99
    subst e910
    subst e911
    subst e912
    subst e913
    subst e914
    subst e915
    exact x_iret X Y dX10_readInto_87
def T_readInto_21 (rc21 : Int32 → (Nat → Int32) → (Nat → Int32) → Int32 → Int32 → Int32 → Int32 → Int32 → Int32 → Int32 → Int32 → Int32 → Int32 → Int32 → Int32 → Int32 → (Nat → Int32) → (Nat → Int32) → Option (Int32 × (Nat → Int32) × Int32 × Int32 × Int32 × Int32 × Int32 × Int32 × Int32 × Int32 × Int32 × Int32 × Int32 × Int32 × (Nat → Int32) × (Nat → Int32))) (x2 : Int32) (tby : Nat → Int32) (tnu : Nat → Int32) (tln : Int32) (tat : Int32) (tsr : Int32) (ttk : Int32) (tnm : Int32) (tit : Int32) (tft : Int32) (csw : Int32) (cca : Int32) (csi : Int32) (cab : Int32) (cun : Int32) (csg : Int32) (cfa : Nat → Int32) (che : Nat → Int32) : Option (Int32 × (Nat → Int32) × Int32 × Int32 × Int32 × Int32 × Int32 × Int32 × Int32 × Int32 × Int32 × Int32 × Int32 × Int32 × (Nat → Int32) × (Nat → Int32)) := if (150 : Int32) < x2 then (T_readInto_65 tby tnu tln tat tsr ttk tnm tit tft csw cca csi cab cun csg cfa che) else (if tft = (-1 : Int32) then (if tit = 0 then (T_readInto_50 rc21 x2 tby tnu tln tat tsr ttk tnm tit tft csw cca csi cab cun csg cfa che) else (if ttk = 0 then (T_readInto_65 tby tnu tln tat tsr ttk tnm tit tft csw cca csi cab cun csg cfa che) else (T_readInto_50 rc21 x2 tby tnu tln tat tsr ttk tnm tit tft csw cca csi cab cun csg cfa che))) else (T_readInto_65 tby tnu tln tat tsr ttk tnm tit tft csw cca csi cab cun csg cfa che))
set_option maxHeartbeats 4000000 in
set_option maxRecDepth 100000 in
theorem bT_readInto_21 {At : Nat → Nat} {Ac : Nat → Nat} {tby : Nat → Int32} {tnu : Nat → Int32} {tln : Int32} {tat : Int32} {tsr : Int32} {ttk : Int32} {tnm : Int32} {tit : Int32} {tft : Int32} {csw : Int32} {cca : Int32} {csi : Int32} {cab : Int32} {cun : Int32} {csg : Int32} {cfa : Nat → Int32} {che : Nat → Int32} {cst : Nat → Int32} {tnu_z : Nat → Int32} {tat_z : Int32} {tsr_z : Int32} {ttk_z : Int32} {tnm_z : Int32} {tit_z : Int32} {tft_z : Int32} {csw_z : Int32} {cca_z : Int32} {csi_z : Int32} {cab_z : Int32} {cun_z : Int32} {csg_z : Int32} {cfa_z : Nat → Int32} {che_z : Nat → Int32} {r0 : Int32} {x2 : Int32} {rc21 : Int32 → (Nat → Int32) → (Nat → Int32) → Int32 → Int32 → Int32 → Int32 → Int32 → Int32 → Int32 → Int32 → Int32 → Int32 → Int32 → Int32 → Int32 → (Nat → Int32) → (Nat → Int32) → Option (Int32 × (Nat → Int32) × Int32 × Int32 × Int32 × Int32 × Int32 × Int32 × Int32 × Int32 × Int32 × Int32 × Int32 × Int32 × (Nat → Int32) × (Nat → Int32))} (X : Cx Γ p s m args meth c RX10 cX10_readInto 3 (some .int) w0) (h21 : ∀ (x2 : Int32) (tby : Nat → Int32) (tnu : Nat → Int32) (tln : Int32) (tat : Int32) (tsr : Int32) (ttk : Int32) (tnm : Int32) (tit : Int32) (tft : Int32) (csw : Int32) (cca : Int32) (csi : Int32) (cab : Int32) (cun : Int32) (csg : Int32) (cfa : Nat → Int32) (che : Nat → Int32), rc21 x2 tby tnu tln tat tsr ttk tnm tit tft csw cca csi cab cun csg cfa che = some (r0, tnu_z, tat_z, tsr_z, ttk_z, tnm_z, tit_z, tft_z, csw_z, cca_z, csi_z, cab_z, cun_z, csg_z, cfa_z, che_z) → ∀ (H : Heap) (locs : List Loc) (ls : Array Slot), Wd Γ w0 s ((WT Γ At tby tnu tln tat tsr ttk tnm tit tft) ++ (WC Γ Ac csw cca csi cab cun csg cfa che cst)) H locs → lv_has ls 3 [(0, .ref (At 0)), (1, .ref (Ac 0)), (2, .int x2)] → W p l e rmT_readInto s m args below meth c H locs 0 0 (EI Γ below args s w0 ((WT Γ At tby tnu_z tln tat_z tsr_z ttk_z tnm_z tit_z tft_z) ++ (WC Γ Ac csw_z cca_z csi_z cab_z cun_z csg_z cfa_z che_z cst)) r0) (F0 m 21 ls [])) (hf : T_readInto_21 rc21 x2 tby tnu tln tat tsr ttk tnm tit tft csw cca csi cab cun csg cfa che = some (r0, tnu_z, tat_z, tsr_z, ttk_z, tnm_z, tit_z, tft_z, csw_z, cca_z, csi_z, cab_z, cun_z, csg_z, cfa_z, che_z)) (Y : Wd Γ w0 s ((WT Γ At tby tnu tln tat tsr ttk tnm tit tft) ++ (WC Γ Ac csw cca csi cab cun csg cfa che cst)) H locs) (hl : lv_has ls 3 [(0, .ref (At 0)), (1, .ref (Ac 0)), (2, .int x2)]) : W p l e rmT_readInto s m args below meth c H locs 0 0 (EI Γ below args s w0 ((WT Γ At tby tnu_z tln tat_z tsr_z ttk_z tnm_z tit_z tft_z) ++ (WC Γ Ac csw_z cca_z csi_z cab_z cun_z csg_z cfa_z che_z cst)) r0) (F0 m 21 ls []) := by
  have hx := X.1
  have hb := X.2.1
  refine lv_iload_n hx hb dX10_readInto_21 rfl (lv_at hl 2 rfl) ?_
  refine lv_sipush (v := (150 : Int32)) hx hb dX10_readInto_22 (by decide) ?_
  refine lv_icmp_gt (tgt := 65) hx hb dX10_readInto_25 (by decide) (fun c_1 => ?_) (fun c_1 => ?_)
  · have hf := ite_t hf c_1
    exact bT_readInto_65 X hf Y (lv_sub hl [0] rfl)
  · have hf := ite_f hf c_1
    refine lv_aload_n hx hb dX10_readInto_28 rfl (lv_at hl 0 rfl) ?_
    refine gfX10_33 X Y (v := .int tft) 0 rfl rfl dX10_readInto_29 ?_
    refine lv_iconst (v := (-1 : Int32)) hx hb dX10_readInto_32 (by decide) ?_
    refine lv_icmp_ne (tgt := 65) hx hb dX10_readInto_33 (by decide) (fun c_2 => ?_) (fun c_2 => ?_)
    · have hf := ite_f hf c_2
      exact bT_readInto_65 X hf Y (lv_sub hl [0] rfl)
    · have hf := ite_t hf c_2
      refine lv_aload_n hx hb dX10_readInto_36 rfl (lv_at hl 0 rfl) ?_
      refine gfX10_30 X Y (v := .int tit) 0 rfl rfl dX10_readInto_37 ?_
      refine lv_if_eq (tgt := 50) hx hb dX10_readInto_40 (by decide) (fun c_3 => ?_) (fun c_3 => ?_)
      · have hf := ite_t hf c_3
        exact bT_readInto_50 X h21 hf Y (lv_sub hl [0, 1, 2] rfl)
      · have hf := ite_f hf c_3
        refine lv_aload_n hx hb dX10_readInto_43 rfl (lv_at hl 0 rfl) ?_
        refine gfX10_39 X Y (v := .int ttk) 0 rfl rfl dX10_readInto_44 ?_
        refine lv_if_eq (tgt := 65) hx hb dX10_readInto_47 (by decide) (fun c_4 => ?_) (fun c_4 => ?_)
        · have hf := ite_t hf c_4
          exact bT_readInto_65 X hf Y (lv_sub hl [0] rfl)
        · have hf := ite_f hf c_4
          exact bT_readInto_50 X h21 hf Y (lv_sub hl [0, 1, 2] rfl)
def T_readInto_L21 : Nat → Int32 → (Nat → Int32) → (Nat → Int32) → Int32 → Int32 → Int32 → Int32 → Int32 → Int32 → Int32 → Int32 → Int32 → Int32 → Int32 → Int32 → Int32 → (Nat → Int32) → (Nat → Int32) → Option (Int32 × (Nat → Int32) × Int32 × Int32 × Int32 × Int32 × Int32 × Int32 × Int32 × Int32 × Int32 × Int32 × Int32 × Int32 × (Nat → Int32) × (Nat → Int32))
  | 0, _, _, _, _, _, _, _, _, _, _, _, _, _, _, _, _, _, _ => none
  | n + 1, x2, tby, tnu, tln, tat, tsr, ttk, tnm, tit, tft, csw, cca, csi, cab, cun, csg, cfa, che => T_readInto_21 (T_readInto_L21 n) x2 tby tnu tln tat tsr ttk tnm tit tft csw cca csi cab cun csg cfa che
theorem lT_readInto_21 {At : Nat → Nat} {Ac : Nat → Nat} {cst : Nat → Int32} {tnu_z : Nat → Int32} {tat_z : Int32} {tsr_z : Int32} {ttk_z : Int32} {tnm_z : Int32} {tit_z : Int32} {tft_z : Int32} {csw_z : Int32} {cca_z : Int32} {csi_z : Int32} {cab_z : Int32} {cun_z : Int32} {csg_z : Int32} {cfa_z : Nat → Int32} {che_z : Nat → Int32} {r0 : Int32} (X : Cx Γ p s m args meth c RX10 cX10_readInto 3 (some .int) w0) : ∀ (n : Nat) (x2 : Int32) (tby : Nat → Int32) (tnu : Nat → Int32) (tln : Int32) (tat : Int32) (tsr : Int32) (ttk : Int32) (tnm : Int32) (tit : Int32) (tft : Int32) (csw : Int32) (cca : Int32) (csi : Int32) (cab : Int32) (cun : Int32) (csg : Int32) (cfa : Nat → Int32) (che : Nat → Int32), T_readInto_L21 n x2 tby tnu tln tat tsr ttk tnm tit tft csw cca csi cab cun csg cfa che = some (r0, tnu_z, tat_z, tsr_z, ttk_z, tnm_z, tit_z, tft_z, csw_z, cca_z, csi_z, cab_z, cun_z, csg_z, cfa_z, che_z) → ∀ (H : Heap) (locs : List Loc) (ls : Array Slot), Wd Γ w0 s ((WT Γ At tby tnu tln tat tsr ttk tnm tit tft) ++ (WC Γ Ac csw cca csi cab cun csg cfa che cst)) H locs → lv_has ls 3 [(0, .ref (At 0)), (1, .ref (Ac 0)), (2, .int x2)] → W p l e rmT_readInto s m args below meth c H locs 0 0 (EI Γ below args s w0 ((WT Γ At tby tnu_z tln tat_z tsr_z ttk_z tnm_z tit_z tft_z) ++ (WC Γ Ac csw_z cca_z csi_z cab_z cun_z csg_z cfa_z che_z cst)) r0) (F0 m 21 ls []) := by
  intro n
  induction n with
  | zero => intro x2 tby tnu tln tat tsr ttk tnm tit tft csw cca csi cab cun csg cfa che hf; cases hf
  | succ n ih => intro x2 tby tnu tln tat tsr ttk tnm tit tft csw cca csi cab cun csg cfa che hf H locs ls Y hl; exact bT_readInto_21 X ih hf Y hl
def T_readInto (tby : Nat → Int32) (tnu : Nat → Int32) (tln : Int32) (tat : Int32) (tsr : Int32) (ttk : Int32) (tnm : Int32) (tit : Int32) (tft : Int32) (csw : Int32) (cca : Int32) (csi : Int32) (cab : Int32) (cun : Int32) (csg : Int32) (cfa : Nat → Int32) (che : Nat → Int32) : Option (Int32 × (Nat → Int32) × Int32 × Int32 × Int32 × Int32 × Int32 × Int32 × Int32 × Int32 × Int32 × Int32 × Int32 × Int32 × (Nat → Int32) × (Nat → Int32)) := bd4 (T_step tby tln (0 : Int32) tsr ttk tnm) (fun (tat_1 : Int32) (tsr_2 : Int32) (ttk_3 : Int32) (tnm_4 : Int32) => T_readInto_L21 FU (0 : Int32) tby tnu tln tat_1 tsr_2 ttk_3 tnm_4 (0 : Int32) (-1 : Int32) csw cca csi cab cun csg cfa che)
set_option maxHeartbeats 4000000 in
set_option maxRecDepth 100000 in
theorem bT_readInto_e {At : Nat → Nat} {Ac : Nat → Nat} {tby : Nat → Int32} {tnu : Nat → Int32} {tln : Int32} {tat : Int32} {tsr : Int32} {ttk : Int32} {tnm : Int32} {tit : Int32} {tft : Int32} {csw : Int32} {cca : Int32} {csi : Int32} {cab : Int32} {cun : Int32} {csg : Int32} {cfa : Nat → Int32} {che : Nat → Int32} {cst : Nat → Int32} {tnu_z : Nat → Int32} {tat_z : Int32} {tsr_z : Int32} {ttk_z : Int32} {tnm_z : Int32} {tit_z : Int32} {tft_z : Int32} {csw_z : Int32} {cca_z : Int32} {csi_z : Int32} {cab_z : Int32} {cun_z : Int32} {csg_z : Int32} {cfa_z : Nat → Int32} {che_z : Nat → Int32} {r0 : Int32} (X : Cx Γ p s m args meth c RX10 cX10_readInto 3 (some .int) w0) (hf : T_readInto tby tnu tln tat tsr ttk tnm tit tft csw cca csi cab cun csg cfa che = some (r0, tnu_z, tat_z, tsr_z, ttk_z, tnm_z, tit_z, tft_z, csw_z, cca_z, csi_z, cab_z, cun_z, csg_z, cfa_z, che_z)) (Y : Wd Γ w0 s ((WT Γ At tby tnu tln tat tsr ttk tnm tit tft) ++ (WC Γ Ac csw cca csi cab cun csg cfa che cst)) H locs) (hl : lv_has ls 3 [(0, .ref (At 0)), (1, .ref (Ac 0))]) : W p l e rmT_readInto s m args below meth c H locs 0 0 (EI Γ below args s w0 ((WT Γ At tby tnu_z tln tat_z tsr_z ttk_z tnm_z tit_z tft_z) ++ (WC Γ Ac csw_z cca_z csi_z cab_z cun_z csg_z cfa_z che_z cst)) r0) (F0 m 0 ls []) := by
  have hx := X.1
  have hb := X.2.1
  refine lv_aload_n hx hb dX10_readInto_0 rfl (lv_at hl 0 rfl) ?_
  refine lv_iconst (v := (0 : Int32)) hx hb dX10_readInto_1 (by decide) ?_
  refine pfX10_27 X Y 0 rfl rfl rfl (Nat.le_of_ble_eq_true rfl) (ws' := ((WT Γ At tby tnu tln (0 : Int32) tsr ttk tnm tit tft) ++ (WC Γ Ac csw cca csi cab cun csg cfa che cst))) rfl dX10_readInto_2 (fun H locs Y => ?_)
  refine lv_aload_n hx hb dX10_readInto_5 rfl (lv_at hl 0 rfl) ?_
  refine lv_iconst (v := (0 : Int32)) hx hb dX10_readInto_6 (by decide) ?_
  refine pfX10_30 X Y 0 rfl rfl rfl (Nat.le_of_ble_eq_true rfl) (ws' := ((WT Γ At tby tnu tln (0 : Int32) tsr ttk tnm (0 : Int32) tft) ++ (WC Γ Ac csw cca csi cab cun csg cfa che cst))) rfl dX10_readInto_7 (fun H locs Y => ?_)
  refine lv_aload_n hx hb dX10_readInto_10 rfl (lv_at hl 0 rfl) ?_
  refine lv_iconst (v := (-1 : Int32)) hx hb dX10_readInto_11 (by decide) ?_
  refine pfX10_33 X Y 0 rfl rfl rfl (Nat.le_of_ble_eq_true rfl) (ws' := ((WT Γ At tby tnu tln (0 : Int32) tsr ttk tnm (0 : Int32) (-1 : Int32)) ++ (WC Γ Ac csw cca csi cab cun csg cfa che cst))) rfl dX10_readInto_12 (fun H locs Y => ?_)
  refine lv_aload_n hx hb dX10_readInto_15 rfl (lv_at hl 0 rfl) ?_
  obtain ⟨tat_1, tsr_2, ttk_3, tnm_4, ho_5, hf⟩ := bd4_some hf
  refine t_v Y (bk Y [0, 1, 2] [3, 4, 5, 6] [4, 5, 6, 0, 1, 2, 3] (wr := [(Ac 0, .inr (1, [.int csw, .int cca, .int csi, .int cab, .int cun, .int csg, .ref (Ac 1), .ref (Ac 2), .ref (Ac 3)])), (Ac 1, .inl (Γ.2.1 0, 48, .inl cfa)), (Ac 2, .inl (Γ.2.1 0, 8, .inl che)), (Ac 3, .inl (Γ.2.1 0, 18, .inl cst))]) (ws' := ((WT Γ At tby tnu tln tat_1 tsr_2 ttk_3 tnm_4 (0 : Int32) (-1 : Int32)) ++ (WC Γ Ac csw cca csi cab cun csg cfa che cst))) rfl rfl rfl (by decide) rfl rfl) (r_V (As := []) (rest := []) X (c_pre X Y [0, 1, 2] rfl rfl) (cT_step ho_5) (cwX10_36 X (by decide)) (va_recv X.K Y.1 (q := (RX10, TX10, 9)) (q0 := 0) (ci := 10) rfl rfl) rfl hl.1 (Nat.le_of_ble_eq_true rfl) rfl dX10_readInto_16 ⟨Nat.zero_le _, Nat.zero_le _⟩) (fun H locs Y => ?_)
  refine lv_iconst (v := (0 : Int32)) hx hb dX10_readInto_19 (by decide) ?_
  refine lv_istore_n (lv' := [(2, .int (0 : Int32)), (0, .ref (At 0)), (1, .ref (Ac 0))]) hx hb dX10_readInto_20 rfl hl (by decide) rfl (fun ls hl => ?_)
  exact lT_readInto_21 X _ _ _ _ _ _ _ _ _ _ _ _ _ _ _ _ _ _ _ hf _ _ _ Y (lv_sub hl [1, 2, 0] rfl)
theorem cT_readInto {l : Launch} {Γ : Gm} {At : Nat → Nat} {Ac : Nat → Nat} {tby : Nat → Int32} {tnu : Nat → Int32} {tln : Int32} {tat : Int32} {tsr : Int32} {ttk : Int32} {tnm : Int32} {tit : Int32} {tft : Int32} {csw : Int32} {cca : Int32} {csi : Int32} {cab : Int32} {cun : Int32} {csg : Int32} {cfa : Nat → Int32} {che : Nat → Int32} {cst : Nat → Int32} {tnu_z : Nat → Int32} {tat_z : Int32} {tsr_z : Int32} {ttk_z : Int32} {tnm_z : Int32} {tit_z : Int32} {tft_z : Int32} {csw_z : Int32} {cca_z : Int32} {csi_z : Int32} {cab_z : Int32} {cun_z : Int32} {csg_z : Int32} {cfa_z : Nat → Int32} {che_z : Nat → Int32} {r0 : Int32} (h : T_readInto tby tnu tln tat tsr ttk tnm tit tft csw cca csi cab cun csg cfa che = some (r0, tnu_z, tat_z, tsr_z, ttk_z, tnm_z, tit_z, tft_z, csw_z, cca_z, csi_z, cab_z, cun_z, csg_z, cfa_z, che_z)) : CI l Γ yX10_readInto (Cond.code yX10_readInto cX10_readInto 3 (some .int) :: GW) rmT_readInto [.ref (At 0), .ref (Ac 0)] ((WT Γ At tby tnu tln tat tsr ttk tnm tit tft) ++ (WC Γ Ac csw cca csi cab cun csg cfa che cst)) ((WT Γ At tby tnu_z tln tat_z tsr_z ttk_z tnm_z tit_z tft_z) ++ (WC Γ Ac csw_z cca_z csi_z cab_z cun_z csg_z cfa_z che_z cst)) r0 := ofBody (Qc := QcI Γ _ _ r0) (by decide) (Nat.le_of_ble_eq_true rfl) (fun p e s m below meth c ls _ X Y hl => bT_readInto_e X h Y hl)
def rmX_allWithin2 : Room := { frames := 1, cells := 0, slots := 0, locals := 22 }
def X_allWithin2_18 (rc18 : Int32 → (Nat → Int32) → Option (Int32)) (x3 : Int32) (rw : Nat → Int32) : Option (Int32) := if (2 : Int32) ≤ x3 then (some (1 : Int32)) else (ck (inb x3 2) (ck (inb x3 2) (ck (inb x3 2) (bd1 (X_within (rw x3.toNatClampNeg) (([0, 0] : List Int32).getD x3.toNatClampNeg 0) (([99, 200] : List Int32).getD x3.toNatClampNeg 0)) (fun (r_5 : Int32) => if r_5 = 0 then (some (0 : Int32)) else (bnd (x3 + (1 : Int32)) (fun (x3_7 : Int32) => rc18 x3_7 rw)))))))
set_option maxHeartbeats 4000000 in
set_option maxRecDepth 100000 in
theorem bX_allWithin2_18 {Ar : Nat → Nat} {rw : Nat → Int32} {r0 : Int32} {x3 : Int32} {rc18 : Int32 → (Nat → Int32) → Option (Int32)} (X : Cx Γ p s m args meth c RX11 cX11_allWithin 4 (some .boolean) w0) (h18 : ∀ (x3 : Int32) (rw : Nat → Int32), rc18 x3 rw = some r0 → ∀ (H : Heap) (locs : List Loc) (ls : Array Slot), Wd Γ w0 s (WR2 Γ Ar rw) H locs → lv_has ls 4 [(0, .ref (Ar 0)), (1, .ref (Γ.2.2 0)), (2, .ref (Γ.2.2 1)), (3, .int x3)] → W p l e rmX_allWithin2 s m args below meth c H locs 0 0 (EI Γ below args s w0 (WR2 Γ Ar rw) r0) (F0 m 18 ls [])) (hf : X_allWithin2_18 rc18 x3 rw = some r0) (Y : Wd Γ w0 s (WR2 Γ Ar rw) H locs) (hl : lv_has ls 4 [(0, .ref (Ar 0)), (1, .ref (Γ.2.2 0)), (2, .ref (Γ.2.2 1)), (3, .int x3)]) : W p l e rmX_allWithin2 s m args below meth c H locs 0 0 (EI Γ below args s w0 (WR2 Γ Ar rw) r0) (F0 m 18 ls []) := by
  have hx := X.1
  have hb := X.2.1
  refine lv_iload_n hx hb dX11_allWithin_18 rfl (lv_at hl 3 rfl) ?_
  refine lv_aload_n hx hb dX11_allWithin_19 rfl (lv_at hl 0 rfl) ?_
  refine x_alen X Y 0 0 rfl rfl (v := (2 : Int32)) rfl dX11_allWithin_20 ?_
  refine lv_icmp_ge (tgt := 47) hx hb dX11_allWithin_21 (by decide) (fun c_1 => ?_) (fun c_1 => ?_)
  · have hf := ite_t hf c_1
    refine lv_iconst (v := (1 : Int32)) hx hb dX11_allWithin_47 (by decide) ?_
    have e90 := Option.some.inj hf
    subst e90
    exact x_zret X Y rfl dX11_allWithin_48
  · have hf := ite_f hf c_1
    refine lv_aload_n hx hb dX11_allWithin_24 rfl (lv_at hl 0 rfl) ?_
    refine lv_iload_n hx hb dX11_allWithin_25 rfl (lv_at hl 3 rfl) ?_
    obtain ⟨hi_2, hf⟩ := ck_some hf
    refine x_iald X Y 0 rfl rfl hi_2 dX11_allWithin_26 ?_
    refine lv_aload_n hx hb dX11_allWithin_27 rfl (lv_at hl 1 rfl) ?_
    refine lv_iload_n hx hb dX11_allWithin_28 rfl (lv_at hl 3 rfl) ?_
    obtain ⟨hi_3, hf⟩ := ck_some hf
    refine x_ti X Y 0 (q := ("SHIP_LEAST", [0, 0])) rfl hi_3 rfl dX11_allWithin_29 ?_
    refine lv_aload_n hx hb dX11_allWithin_30 rfl (lv_at hl 2 rfl) ?_
    refine lv_iload_n hx hb dX11_allWithin_31 rfl (lv_at hl 3 rfl) ?_
    obtain ⟨hi_4, hf⟩ := ck_some hf
    refine x_ti X Y 1 (q := ("SHIP_MOST", [99, 200])) rfl hi_4 rfl dX11_allWithin_32 ?_
    obtain ⟨r_5, ho_8, hf⟩ := bd1_some hf
    refine t_i Y (bk0 Y) (r_S (As := [.int (rw x3.toNatClampNeg), .int (([0, 0] : List Int32).getD x3.toNatClampNeg 0), .int (([99, 200] : List Int32).getD x3.toNatClampNeg 0)]) (rest := []) X (c_pre0 X Y) (cX_within ho_8) (cwX11_97 X (by decide)) rfl hl.1 (Nat.le_of_ble_eq_true rfl) rfl dX11_allWithin_33 ⟨Nat.zero_le _, Nat.zero_le _⟩) (fun H locs Y => ?_)
    refine lv_if_ne (tgt := 41) hx hb dX11_allWithin_36 (by decide) (fun c_6 => ?_) (fun c_6 => ?_)
    · have hf := ite_f hf c_6
      obtain ⟨x3_7, e_x3_7⟩ : ∃ z : Int32, z = (x3 + (1 : Int32)) := ⟨_, rfl⟩
      have hf := bnd_eq hf e_x3_7
      refine lv_iinc (v := x3_7) (lv' := [(3, .int x3_7), (0, .ref (Ar 0)), (1, .ref (Γ.2.2 0)), (2, .ref (Γ.2.2 1))]) hx hb dX11_allWithin_41 hl (k := 3) rfl (by rw [e_x3_7]; rfl) (by decide) rfl (fun ls hl => ?_)
      refine lv_goto (tgt := 18) hx hb dX11_allWithin_44 (by decide) ?_
      exact h18 _ _ hf _ _ _ Y (lv_sub hl [1, 2, 3, 0] rfl)
    · have hf := ite_t hf c_6
      refine lv_iconst (v := (0 : Int32)) hx hb dX11_allWithin_39 (by decide) ?_
      have e90 := Option.some.inj hf
      subst e90
      exact x_zret X Y rfl dX11_allWithin_40
def X_allWithin2_L18 : Nat → Int32 → (Nat → Int32) → Option (Int32)
  | 0, _, _ => none
  | n + 1, x3, rw => X_allWithin2_18 (X_allWithin2_L18 n) x3 rw
theorem lX_allWithin2_18 {Ar : Nat → Nat} {r0 : Int32} (X : Cx Γ p s m args meth c RX11 cX11_allWithin 4 (some .boolean) w0) : ∀ (n : Nat) (x3 : Int32) (rw : Nat → Int32), X_allWithin2_L18 n x3 rw = some r0 → ∀ (H : Heap) (locs : List Loc) (ls : Array Slot), Wd Γ w0 s (WR2 Γ Ar rw) H locs → lv_has ls 4 [(0, .ref (Ar 0)), (1, .ref (Γ.2.2 0)), (2, .ref (Γ.2.2 1)), (3, .int x3)] → W p l e rmX_allWithin2 s m args below meth c H locs 0 0 (EI Γ below args s w0 (WR2 Γ Ar rw) r0) (F0 m 18 ls []) := by
  intro n
  induction n with
  | zero => intro x3 rw hf; cases hf
  | succ n ih => intro x3 rw hf H locs ls Y hl; exact bX_allWithin2_18 X ih hf Y hl
def X_allWithin2 (rw : Nat → Int32) : Option (Int32) := X_allWithin2_L18 FU (0 : Int32) rw
set_option maxHeartbeats 4000000 in
set_option maxRecDepth 100000 in
theorem bX_allWithin2_e {Ar : Nat → Nat} {rw : Nat → Int32} {r0 : Int32} (X : Cx Γ p s m args meth c RX11 cX11_allWithin 4 (some .boolean) w0) (hf : X_allWithin2 rw = some r0) (Y : Wd Γ w0 s (WR2 Γ Ar rw) H locs) (hl : lv_has ls 4 [(0, .ref (Ar 0)), (1, .ref (Γ.2.2 0)), (2, .ref (Γ.2.2 1))]) : W p l e rmX_allWithin2 s m args below meth c H locs 0 0 (EI Γ below args s w0 (WR2 Γ Ar rw) r0) (F0 m 0 ls []) := by
  have hx := X.1
  have hb := X.2.1
  refine lv_aload_n hx hb dX11_allWithin_0 rfl (lv_at hl 0 rfl) ?_
  refine x_alen X Y 0 0 rfl rfl (v := (2 : Int32)) rfl dX11_allWithin_1 ?_
  refine lv_aload_n hx hb dX11_allWithin_2 rfl (lv_at hl 1 rfl) ?_
  refine x_tlen X Y 0 (q := ("SHIP_LEAST", [0, 0])) rfl (v := (2 : Int32)) rfl dX11_allWithin_3 ?_
  refine lv_icmp_ne (tgt := 14) hx hb dX11_allWithin_4 (by decide) (fun c9 => absurd c9 (by decide)) (fun _ => ?_)
  refine lv_aload_n hx hb dX11_allWithin_7 rfl (lv_at hl 0 rfl) ?_
  refine x_alen X Y 0 0 rfl rfl (v := (2 : Int32)) rfl dX11_allWithin_8 ?_
  refine lv_aload_n hx hb dX11_allWithin_9 rfl (lv_at hl 2 rfl) ?_
  refine x_tlen X Y 1 (q := ("SHIP_MOST", [99, 200])) rfl (v := (2 : Int32)) rfl dX11_allWithin_10 ?_
  refine lv_icmp_eq (tgt := 16) hx hb dX11_allWithin_11 (by decide) (fun _ => ?_) (fun c9 => absurd c9 (by decide))
  refine lv_iconst (v := (0 : Int32)) hx hb dX11_allWithin_16 (by decide) ?_
  refine lv_istore_n (lv' := [(3, .int (0 : Int32)), (0, .ref (Ar 0)), (1, .ref (Γ.2.2 0)), (2, .ref (Γ.2.2 1))]) hx hb dX11_allWithin_17 rfl hl (by decide) rfl (fun ls hl => ?_)
  exact lX_allWithin2_18 X _ _ _ hf _ _ _ Y (lv_sub hl [1, 2, 3, 0] rfl)
theorem cX_allWithin2 {l : Launch} {Γ : Gm} {Ar : Nat → Nat} {rw : Nat → Int32} {r0 : Int32} (h : X_allWithin2 rw = some r0) : CI l Γ yX11_allWithin (Cond.code yX11_allWithin cX11_allWithin 4 (some .boolean) :: GW) rmX_allWithin2 [.ref (Ar 0), .ref (Γ.2.2 0), .ref (Γ.2.2 1)] (WR2 Γ Ar rw) (WR2 Γ Ar rw) r0 := ofBody (Qc := QcI Γ _ _ r0) (by decide) (Nat.le_of_ble_eq_true rfl) (fun p e s m below meth c ls _ X Y hl => bX_allWithin2_e X h Y hl)
def rmX_allWithin6 : Room := { frames := 1, cells := 0, slots := 0, locals := 22 }
def X_allWithin6_18 (rc18 : Int32 → (Nat → Int32) → Option (Int32)) (x3 : Int32) (rw : Nat → Int32) : Option (Int32) := if (6 : Int32) ≤ x3 then (some (1 : Int32)) else (ck (inb x3 6) (ck (inb x3 6) (ck (inb x3 6) (bd1 (X_within (rw x3.toNatClampNeg) (([0, 0, 0, 1, 0, 0] : List Int32).getD x3.toNatClampNeg 0) (([5, 3, 2, 40, 60, 60] : List Int32).getD x3.toNatClampNeg 0)) (fun (r_5 : Int32) => if r_5 = 0 then (some (0 : Int32)) else (bnd (x3 + (1 : Int32)) (fun (x3_7 : Int32) => rc18 x3_7 rw)))))))
set_option maxHeartbeats 4000000 in
set_option maxRecDepth 100000 in
theorem bX_allWithin6_18 {Ar : Nat → Nat} {rw : Nat → Int32} {r0 : Int32} {x3 : Int32} {rc18 : Int32 → (Nat → Int32) → Option (Int32)} (X : Cx Γ p s m args meth c RX11 cX11_allWithin 4 (some .boolean) w0) (h18 : ∀ (x3 : Int32) (rw : Nat → Int32), rc18 x3 rw = some r0 → ∀ (H : Heap) (locs : List Loc) (ls : Array Slot), Wd Γ w0 s (WR6 Γ Ar rw) H locs → lv_has ls 4 [(0, .ref (Ar 0)), (1, .ref (Γ.2.2 2)), (2, .ref (Γ.2.2 3)), (3, .int x3)] → W p l e rmX_allWithin6 s m args below meth c H locs 0 0 (EI Γ below args s w0 (WR6 Γ Ar rw) r0) (F0 m 18 ls [])) (hf : X_allWithin6_18 rc18 x3 rw = some r0) (Y : Wd Γ w0 s (WR6 Γ Ar rw) H locs) (hl : lv_has ls 4 [(0, .ref (Ar 0)), (1, .ref (Γ.2.2 2)), (2, .ref (Γ.2.2 3)), (3, .int x3)]) : W p l e rmX_allWithin6 s m args below meth c H locs 0 0 (EI Γ below args s w0 (WR6 Γ Ar rw) r0) (F0 m 18 ls []) := by
  have hx := X.1
  have hb := X.2.1
  refine lv_iload_n hx hb dX11_allWithin_18 rfl (lv_at hl 3 rfl) ?_
  refine lv_aload_n hx hb dX11_allWithin_19 rfl (lv_at hl 0 rfl) ?_
  refine x_alen X Y 0 0 rfl rfl (v := (6 : Int32)) rfl dX11_allWithin_20 ?_
  refine lv_icmp_ge (tgt := 47) hx hb dX11_allWithin_21 (by decide) (fun c_1 => ?_) (fun c_1 => ?_)
  · have hf := ite_t hf c_1
    refine lv_iconst (v := (1 : Int32)) hx hb dX11_allWithin_47 (by decide) ?_
    have e90 := Option.some.inj hf
    subst e90
    exact x_zret X Y rfl dX11_allWithin_48
  · have hf := ite_f hf c_1
    refine lv_aload_n hx hb dX11_allWithin_24 rfl (lv_at hl 0 rfl) ?_
    refine lv_iload_n hx hb dX11_allWithin_25 rfl (lv_at hl 3 rfl) ?_
    obtain ⟨hi_2, hf⟩ := ck_some hf
    refine x_iald X Y 0 rfl rfl hi_2 dX11_allWithin_26 ?_
    refine lv_aload_n hx hb dX11_allWithin_27 rfl (lv_at hl 1 rfl) ?_
    refine lv_iload_n hx hb dX11_allWithin_28 rfl (lv_at hl 3 rfl) ?_
    obtain ⟨hi_3, hf⟩ := ck_some hf
    refine x_ti X Y 2 (q := ("GOODS_LEAST", [0, 0, 0, 1, 0, 0])) rfl hi_3 rfl dX11_allWithin_29 ?_
    refine lv_aload_n hx hb dX11_allWithin_30 rfl (lv_at hl 2 rfl) ?_
    refine lv_iload_n hx hb dX11_allWithin_31 rfl (lv_at hl 3 rfl) ?_
    obtain ⟨hi_4, hf⟩ := ck_some hf
    refine x_ti X Y 3 (q := ("GOODS_MOST", [5, 3, 2, 40, 60, 60])) rfl hi_4 rfl dX11_allWithin_32 ?_
    obtain ⟨r_5, ho_8, hf⟩ := bd1_some hf
    refine t_i Y (bk0 Y) (r_S (As := [.int (rw x3.toNatClampNeg), .int (([0, 0, 0, 1, 0, 0] : List Int32).getD x3.toNatClampNeg 0), .int (([5, 3, 2, 40, 60, 60] : List Int32).getD x3.toNatClampNeg 0)]) (rest := []) X (c_pre0 X Y) (cX_within ho_8) (cwX11_97 X (by decide)) rfl hl.1 (Nat.le_of_ble_eq_true rfl) rfl dX11_allWithin_33 ⟨Nat.zero_le _, Nat.zero_le _⟩) (fun H locs Y => ?_)
    refine lv_if_ne (tgt := 41) hx hb dX11_allWithin_36 (by decide) (fun c_6 => ?_) (fun c_6 => ?_)
    · have hf := ite_f hf c_6
      obtain ⟨x3_7, e_x3_7⟩ : ∃ z : Int32, z = (x3 + (1 : Int32)) := ⟨_, rfl⟩
      have hf := bnd_eq hf e_x3_7
      refine lv_iinc (v := x3_7) (lv' := [(3, .int x3_7), (0, .ref (Ar 0)), (1, .ref (Γ.2.2 2)), (2, .ref (Γ.2.2 3))]) hx hb dX11_allWithin_41 hl (k := 3) rfl (by rw [e_x3_7]; rfl) (by decide) rfl (fun ls hl => ?_)
      refine lv_goto (tgt := 18) hx hb dX11_allWithin_44 (by decide) ?_
      exact h18 _ _ hf _ _ _ Y (lv_sub hl [1, 2, 3, 0] rfl)
    · have hf := ite_t hf c_6
      refine lv_iconst (v := (0 : Int32)) hx hb dX11_allWithin_39 (by decide) ?_
      have e90 := Option.some.inj hf
      subst e90
      exact x_zret X Y rfl dX11_allWithin_40
def X_allWithin6_L18 : Nat → Int32 → (Nat → Int32) → Option (Int32)
  | 0, _, _ => none
  | n + 1, x3, rw => X_allWithin6_18 (X_allWithin6_L18 n) x3 rw
theorem lX_allWithin6_18 {Ar : Nat → Nat} {r0 : Int32} (X : Cx Γ p s m args meth c RX11 cX11_allWithin 4 (some .boolean) w0) : ∀ (n : Nat) (x3 : Int32) (rw : Nat → Int32), X_allWithin6_L18 n x3 rw = some r0 → ∀ (H : Heap) (locs : List Loc) (ls : Array Slot), Wd Γ w0 s (WR6 Γ Ar rw) H locs → lv_has ls 4 [(0, .ref (Ar 0)), (1, .ref (Γ.2.2 2)), (2, .ref (Γ.2.2 3)), (3, .int x3)] → W p l e rmX_allWithin6 s m args below meth c H locs 0 0 (EI Γ below args s w0 (WR6 Γ Ar rw) r0) (F0 m 18 ls []) := by
  intro n
  induction n with
  | zero => intro x3 rw hf; cases hf
  | succ n ih => intro x3 rw hf H locs ls Y hl; exact bX_allWithin6_18 X ih hf Y hl
def X_allWithin6 (rw : Nat → Int32) : Option (Int32) := X_allWithin6_L18 FU (0 : Int32) rw
set_option maxHeartbeats 4000000 in
set_option maxRecDepth 100000 in
theorem bX_allWithin6_e {Ar : Nat → Nat} {rw : Nat → Int32} {r0 : Int32} (X : Cx Γ p s m args meth c RX11 cX11_allWithin 4 (some .boolean) w0) (hf : X_allWithin6 rw = some r0) (Y : Wd Γ w0 s (WR6 Γ Ar rw) H locs) (hl : lv_has ls 4 [(0, .ref (Ar 0)), (1, .ref (Γ.2.2 2)), (2, .ref (Γ.2.2 3))]) : W p l e rmX_allWithin6 s m args below meth c H locs 0 0 (EI Γ below args s w0 (WR6 Γ Ar rw) r0) (F0 m 0 ls []) := by
  have hx := X.1
  have hb := X.2.1
  refine lv_aload_n hx hb dX11_allWithin_0 rfl (lv_at hl 0 rfl) ?_
  refine x_alen X Y 0 0 rfl rfl (v := (6 : Int32)) rfl dX11_allWithin_1 ?_
  refine lv_aload_n hx hb dX11_allWithin_2 rfl (lv_at hl 1 rfl) ?_
  refine x_tlen X Y 2 (q := ("GOODS_LEAST", [0, 0, 0, 1, 0, 0])) rfl (v := (6 : Int32)) rfl dX11_allWithin_3 ?_
  refine lv_icmp_ne (tgt := 14) hx hb dX11_allWithin_4 (by decide) (fun c9 => absurd c9 (by decide)) (fun _ => ?_)
  refine lv_aload_n hx hb dX11_allWithin_7 rfl (lv_at hl 0 rfl) ?_
  refine x_alen X Y 0 0 rfl rfl (v := (6 : Int32)) rfl dX11_allWithin_8 ?_
  refine lv_aload_n hx hb dX11_allWithin_9 rfl (lv_at hl 2 rfl) ?_
  refine x_tlen X Y 3 (q := ("GOODS_MOST", [5, 3, 2, 40, 60, 60])) rfl (v := (6 : Int32)) rfl dX11_allWithin_10 ?_
  refine lv_icmp_eq (tgt := 16) hx hb dX11_allWithin_11 (by decide) (fun _ => ?_) (fun c9 => absurd c9 (by decide))
  refine lv_iconst (v := (0 : Int32)) hx hb dX11_allWithin_16 (by decide) ?_
  refine lv_istore_n (lv' := [(3, .int (0 : Int32)), (0, .ref (Ar 0)), (1, .ref (Γ.2.2 2)), (2, .ref (Γ.2.2 3))]) hx hb dX11_allWithin_17 rfl hl (by decide) rfl (fun ls hl => ?_)
  exact lX_allWithin6_18 X _ _ _ hf _ _ _ Y (lv_sub hl [1, 2, 3, 0] rfl)
theorem cX_allWithin6 {l : Launch} {Γ : Gm} {Ar : Nat → Nat} {rw : Nat → Int32} {r0 : Int32} (h : X_allWithin6 rw = some r0) : CI l Γ yX11_allWithin (Cond.code yX11_allWithin cX11_allWithin 4 (some .boolean) :: GW) rmX_allWithin6 [.ref (Ar 0), .ref (Γ.2.2 2), .ref (Γ.2.2 3)] (WR6 Γ Ar rw) (WR6 Γ Ar rw) r0 := ofBody (Qc := QcI Γ _ _ r0) (by decide) (Nat.le_of_ble_eq_true rfl) (fun p e s m below meth c ls _ X Y hl => bX_allWithin6_e X h Y hl)
def rmX_allWithin3 : Room := { frames := 1, cells := 0, slots := 0, locals := 22 }
def X_allWithin3_18 (rc18 : Int32 → (Nat → Int32) → Option (Int32)) (x3 : Int32) (rw : Nat → Int32) : Option (Int32) := if (3 : Int32) ≤ x3 then (some (1 : Int32)) else (ck (inb x3 3) (ck (inb x3 3) (ck (inb x3 3) (bd1 (X_within (rw x3.toNatClampNeg) (([1, 0, 0] : List Int32).getD x3.toNatClampNeg 0) (([40, 60, 3] : List Int32).getD x3.toNatClampNeg 0)) (fun (r_5 : Int32) => if r_5 = 0 then (some (0 : Int32)) else (bnd (x3 + (1 : Int32)) (fun (x3_7 : Int32) => rc18 x3_7 rw)))))))
set_option maxHeartbeats 4000000 in
set_option maxRecDepth 100000 in
theorem bX_allWithin3_18 {Ar : Nat → Nat} {rw : Nat → Int32} {r0 : Int32} {x3 : Int32} {rc18 : Int32 → (Nat → Int32) → Option (Int32)} (X : Cx Γ p s m args meth c RX11 cX11_allWithin 4 (some .boolean) w0) (h18 : ∀ (x3 : Int32) (rw : Nat → Int32), rc18 x3 rw = some r0 → ∀ (H : Heap) (locs : List Loc) (ls : Array Slot), Wd Γ w0 s (WR3 Γ Ar rw) H locs → lv_has ls 4 [(0, .ref (Ar 0)), (1, .ref (Γ.2.2 4)), (2, .ref (Γ.2.2 5)), (3, .int x3)] → W p l e rmX_allWithin3 s m args below meth c H locs 0 0 (EI Γ below args s w0 (WR3 Γ Ar rw) r0) (F0 m 18 ls [])) (hf : X_allWithin3_18 rc18 x3 rw = some r0) (Y : Wd Γ w0 s (WR3 Γ Ar rw) H locs) (hl : lv_has ls 4 [(0, .ref (Ar 0)), (1, .ref (Γ.2.2 4)), (2, .ref (Γ.2.2 5)), (3, .int x3)]) : W p l e rmX_allWithin3 s m args below meth c H locs 0 0 (EI Γ below args s w0 (WR3 Γ Ar rw) r0) (F0 m 18 ls []) := by
  have hx := X.1
  have hb := X.2.1
  refine lv_iload_n hx hb dX11_allWithin_18 rfl (lv_at hl 3 rfl) ?_
  refine lv_aload_n hx hb dX11_allWithin_19 rfl (lv_at hl 0 rfl) ?_
  refine x_alen X Y 0 0 rfl rfl (v := (3 : Int32)) rfl dX11_allWithin_20 ?_
  refine lv_icmp_ge (tgt := 47) hx hb dX11_allWithin_21 (by decide) (fun c_1 => ?_) (fun c_1 => ?_)
  · have hf := ite_t hf c_1
    refine lv_iconst (v := (1 : Int32)) hx hb dX11_allWithin_47 (by decide) ?_
    have e90 := Option.some.inj hf
    subst e90
    exact x_zret X Y rfl dX11_allWithin_48
  · have hf := ite_f hf c_1
    refine lv_aload_n hx hb dX11_allWithin_24 rfl (lv_at hl 0 rfl) ?_
    refine lv_iload_n hx hb dX11_allWithin_25 rfl (lv_at hl 3 rfl) ?_
    obtain ⟨hi_2, hf⟩ := ck_some hf
    refine x_iald X Y 0 rfl rfl hi_2 dX11_allWithin_26 ?_
    refine lv_aload_n hx hb dX11_allWithin_27 rfl (lv_at hl 1 rfl) ?_
    refine lv_iload_n hx hb dX11_allWithin_28 rfl (lv_at hl 3 rfl) ?_
    obtain ⟨hi_3, hf⟩ := ck_some hf
    refine x_ti X Y 4 (q := ("SEEN_LEAST", [1, 0, 0])) rfl hi_3 rfl dX11_allWithin_29 ?_
    refine lv_aload_n hx hb dX11_allWithin_30 rfl (lv_at hl 2 rfl) ?_
    refine lv_iload_n hx hb dX11_allWithin_31 rfl (lv_at hl 3 rfl) ?_
    obtain ⟨hi_4, hf⟩ := ck_some hf
    refine x_ti X Y 5 (q := ("SEEN_MOST", [40, 60, 3])) rfl hi_4 rfl dX11_allWithin_32 ?_
    obtain ⟨r_5, ho_8, hf⟩ := bd1_some hf
    refine t_i Y (bk0 Y) (r_S (As := [.int (rw x3.toNatClampNeg), .int (([1, 0, 0] : List Int32).getD x3.toNatClampNeg 0), .int (([40, 60, 3] : List Int32).getD x3.toNatClampNeg 0)]) (rest := []) X (c_pre0 X Y) (cX_within ho_8) (cwX11_97 X (by decide)) rfl hl.1 (Nat.le_of_ble_eq_true rfl) rfl dX11_allWithin_33 ⟨Nat.zero_le _, Nat.zero_le _⟩) (fun H locs Y => ?_)
    refine lv_if_ne (tgt := 41) hx hb dX11_allWithin_36 (by decide) (fun c_6 => ?_) (fun c_6 => ?_)
    · have hf := ite_f hf c_6
      obtain ⟨x3_7, e_x3_7⟩ : ∃ z : Int32, z = (x3 + (1 : Int32)) := ⟨_, rfl⟩
      have hf := bnd_eq hf e_x3_7
      refine lv_iinc (v := x3_7) (lv' := [(3, .int x3_7), (0, .ref (Ar 0)), (1, .ref (Γ.2.2 4)), (2, .ref (Γ.2.2 5))]) hx hb dX11_allWithin_41 hl (k := 3) rfl (by rw [e_x3_7]; rfl) (by decide) rfl (fun ls hl => ?_)
      refine lv_goto (tgt := 18) hx hb dX11_allWithin_44 (by decide) ?_
      exact h18 _ _ hf _ _ _ Y (lv_sub hl [1, 2, 3, 0] rfl)
    · have hf := ite_t hf c_6
      refine lv_iconst (v := (0 : Int32)) hx hb dX11_allWithin_39 (by decide) ?_
      have e90 := Option.some.inj hf
      subst e90
      exact x_zret X Y rfl dX11_allWithin_40
def X_allWithin3_L18 : Nat → Int32 → (Nat → Int32) → Option (Int32)
  | 0, _, _ => none
  | n + 1, x3, rw => X_allWithin3_18 (X_allWithin3_L18 n) x3 rw
theorem lX_allWithin3_18 {Ar : Nat → Nat} {r0 : Int32} (X : Cx Γ p s m args meth c RX11 cX11_allWithin 4 (some .boolean) w0) : ∀ (n : Nat) (x3 : Int32) (rw : Nat → Int32), X_allWithin3_L18 n x3 rw = some r0 → ∀ (H : Heap) (locs : List Loc) (ls : Array Slot), Wd Γ w0 s (WR3 Γ Ar rw) H locs → lv_has ls 4 [(0, .ref (Ar 0)), (1, .ref (Γ.2.2 4)), (2, .ref (Γ.2.2 5)), (3, .int x3)] → W p l e rmX_allWithin3 s m args below meth c H locs 0 0 (EI Γ below args s w0 (WR3 Γ Ar rw) r0) (F0 m 18 ls []) := by
  intro n
  induction n with
  | zero => intro x3 rw hf; cases hf
  | succ n ih => intro x3 rw hf H locs ls Y hl; exact bX_allWithin3_18 X ih hf Y hl
def X_allWithin3 (rw : Nat → Int32) : Option (Int32) := X_allWithin3_L18 FU (0 : Int32) rw
set_option maxHeartbeats 4000000 in
set_option maxRecDepth 100000 in
theorem bX_allWithin3_e {Ar : Nat → Nat} {rw : Nat → Int32} {r0 : Int32} (X : Cx Γ p s m args meth c RX11 cX11_allWithin 4 (some .boolean) w0) (hf : X_allWithin3 rw = some r0) (Y : Wd Γ w0 s (WR3 Γ Ar rw) H locs) (hl : lv_has ls 4 [(0, .ref (Ar 0)), (1, .ref (Γ.2.2 4)), (2, .ref (Γ.2.2 5))]) : W p l e rmX_allWithin3 s m args below meth c H locs 0 0 (EI Γ below args s w0 (WR3 Γ Ar rw) r0) (F0 m 0 ls []) := by
  have hx := X.1
  have hb := X.2.1
  refine lv_aload_n hx hb dX11_allWithin_0 rfl (lv_at hl 0 rfl) ?_
  refine x_alen X Y 0 0 rfl rfl (v := (3 : Int32)) rfl dX11_allWithin_1 ?_
  refine lv_aload_n hx hb dX11_allWithin_2 rfl (lv_at hl 1 rfl) ?_
  refine x_tlen X Y 4 (q := ("SEEN_LEAST", [1, 0, 0])) rfl (v := (3 : Int32)) rfl dX11_allWithin_3 ?_
  refine lv_icmp_ne (tgt := 14) hx hb dX11_allWithin_4 (by decide) (fun c9 => absurd c9 (by decide)) (fun _ => ?_)
  refine lv_aload_n hx hb dX11_allWithin_7 rfl (lv_at hl 0 rfl) ?_
  refine x_alen X Y 0 0 rfl rfl (v := (3 : Int32)) rfl dX11_allWithin_8 ?_
  refine lv_aload_n hx hb dX11_allWithin_9 rfl (lv_at hl 2 rfl) ?_
  refine x_tlen X Y 5 (q := ("SEEN_MOST", [40, 60, 3])) rfl (v := (3 : Int32)) rfl dX11_allWithin_10 ?_
  refine lv_icmp_eq (tgt := 16) hx hb dX11_allWithin_11 (by decide) (fun _ => ?_) (fun c9 => absurd c9 (by decide))
  refine lv_iconst (v := (0 : Int32)) hx hb dX11_allWithin_16 (by decide) ?_
  refine lv_istore_n (lv' := [(3, .int (0 : Int32)), (0, .ref (Ar 0)), (1, .ref (Γ.2.2 4)), (2, .ref (Γ.2.2 5))]) hx hb dX11_allWithin_17 rfl hl (by decide) rfl (fun ls hl => ?_)
  exact lX_allWithin3_18 X _ _ _ hf _ _ _ Y (lv_sub hl [1, 2, 3, 0] rfl)
theorem cX_allWithin3 {l : Launch} {Γ : Gm} {Ar : Nat → Nat} {rw : Nat → Int32} {r0 : Int32} (h : X_allWithin3 rw = some r0) : CI l Γ yX11_allWithin (Cond.code yX11_allWithin cX11_allWithin 4 (some .boolean) :: GW) rmX_allWithin3 [.ref (Ar 0), .ref (Γ.2.2 4), .ref (Γ.2.2 5)] (WR3 Γ Ar rw) (WR3 Γ Ar rw) r0 := ofBody (Qc := QcI Γ _ _ r0) (by decide) (Nat.le_of_ble_eq_true rfl) (fun p e s m below meth c ls _ X Y hl => bX_allWithin3_e X h Y hl)
theorem gfX11_262 (X : Cx Γ p s m args meth c RX11 cc nL ret w0) (Y : Wd Γ w0 s ws H locs) {v : Value} (q0 : Nat) {fs : List Value} (he : ws[q0]? = some (a, .inr (11, fs))) (hv : fs[13]? = some v) (hdg : decode cc pc = .ok (.getfield 262, 3)) (kk : W p l e R s m args below meth c H locs cells slots Q (F0 m (pc + 3) ls (v :: rest))) : W p l e R s m args below meth c H locs cells slots Q (F0 m pc ls (.ref a :: rest)) := x_get X Y iX11 rfl 13 (by decide) rfl kw483 q0 he hv hdg kk
theorem pfX11_262 (X : Cx Γ p s m args meth c RX11 cc nL ret w0) (Y : Wd Γ w0 s ws H locs) (q0 : Nat) {fs : List Value} (he : ws[q0]? = some (a, .inr (11, fs))) {v : Value} (hn : narrow (tyX11 13) v = v) (hfit : fits (tyX11 13) v = true) (hl : 13 < fs.length) (hw : ws.set q0 (a, .inr (11, fs.set 13 v)) = ws') (hdg : decode cc pc = .ok (.putfield 262, 3)) (kk : ∀ (H1 : Heap) (locs1 : List Loc), Wd Γ w0 s ws' H1 locs1 → W p l e R s m args below meth c H1 locs1 cells slots Q (F0 m (pc + 3) ls rest)) : W p l e R s m args below meth c H locs cells slots Q (F0 m pc ls (v :: .ref a :: rest)) := x_put X Y iX11 tyX11 tyX11_ok nmX11 rfl 13 (by decide) rfl kw483 rfl q0 he hn hfit hl hw hdg kk
theorem gfX11_259 (X : Cx Γ p s m args meth c RX11 cc nL ret w0) (Y : Wd Γ w0 s ws H locs) {v : Value} (q0 : Nat) {fs : List Value} (he : ws[q0]? = some (a, .inr (11, fs))) (hv : fs[12]? = some v) (hdg : decode cc pc = .ok (.getfield 259, 3)) (kk : W p l e R s m args below meth c H locs cells slots Q (F0 m (pc + 3) ls (v :: rest))) : W p l e R s m args below meth c H locs cells slots Q (F0 m pc ls (.ref a :: rest)) := x_get X Y iX11 rfl 12 (by decide) rfl kw484 q0 he hv hdg kk
theorem pfX11_259 (X : Cx Γ p s m args meth c RX11 cc nL ret w0) (Y : Wd Γ w0 s ws H locs) (q0 : Nat) {fs : List Value} (he : ws[q0]? = some (a, .inr (11, fs))) {v : Value} (hn : narrow (tyX11 12) v = v) (hfit : fits (tyX11 12) v = true) (hl : 12 < fs.length) (hw : ws.set q0 (a, .inr (11, fs.set 12 v)) = ws') (hdg : decode cc pc = .ok (.putfield 259, 3)) (kk : ∀ (H1 : Heap) (locs1 : List Loc), Wd Γ w0 s ws' H1 locs1 → W p l e R s m args below meth c H1 locs1 cells slots Q (F0 m (pc + 3) ls rest)) : W p l e R s m args below meth c H locs cells slots Q (F0 m pc ls (v :: .ref a :: rest)) := x_put X Y iX11 tyX11 tyX11_ok nmX11 rfl 12 (by decide) rfl kw484 rfl q0 he hn hfit hl hw hdg kk
theorem gfX11_256 (X : Cx Γ p s m args meth c RX11 cc nL ret w0) (Y : Wd Γ w0 s ws H locs) {v : Value} (q0 : Nat) {fs : List Value} (he : ws[q0]? = some (a, .inr (11, fs))) (hv : fs[11]? = some v) (hdg : decode cc pc = .ok (.getfield 256, 3)) (kk : W p l e R s m args below meth c H locs cells slots Q (F0 m (pc + 3) ls (v :: rest))) : W p l e R s m args below meth c H locs cells slots Q (F0 m pc ls (.ref a :: rest)) := x_get X Y iX11 rfl 11 (by decide) rfl kw485 q0 he hv hdg kk
theorem pfX11_256 (X : Cx Γ p s m args meth c RX11 cc nL ret w0) (Y : Wd Γ w0 s ws H locs) (q0 : Nat) {fs : List Value} (he : ws[q0]? = some (a, .inr (11, fs))) {v : Value} (hn : narrow (tyX11 11) v = v) (hfit : fits (tyX11 11) v = true) (hl : 11 < fs.length) (hw : ws.set q0 (a, .inr (11, fs.set 11 v)) = ws') (hdg : decode cc pc = .ok (.putfield 256, 3)) (kk : ∀ (H1 : Heap) (locs1 : List Loc), Wd Γ w0 s ws' H1 locs1 → W p l e R s m args below meth c H1 locs1 cells slots Q (F0 m (pc + 3) ls rest)) : W p l e R s m args below meth c H locs cells slots Q (F0 m pc ls (v :: .ref a :: rest)) := x_put X Y iX11 tyX11 tyX11_ok nmX11 rfl 11 (by decide) rfl kw485 rfl q0 he hn hfit hl hw hdg kk
def rmX_refuse : Room := { frames := 0, cells := 0, slots := 0, locals := 0 }
def X_refuse (x1 : Int32) (xbc : Int32) (xnc : Int32) (xfc : Int32) : Option (Int32 × Int32 × Int32 × Int32) := if x1 = (-2 : Int32) then (bnd (xbc + (1 : Int32)) (fun (xbc_5 : Int32) => some (x1, xbc_5, xnc, xfc))) else (if x1 = (-3 : Int32) then (bnd (xnc + (1 : Int32)) (fun (xnc_4 : Int32) => some (x1, xbc, xnc_4, xfc))) else (bnd (xfc + (1 : Int32)) (fun (xfc_3 : Int32) => some (x1, xbc, xnc, xfc_3))))
set_option maxHeartbeats 4000000 in
set_option maxRecDepth 100000 in
theorem bX_refuse_e {Ax : Nat → Nat} {Ac : Nat → Nat} {Ad : Nat → Nat} {Ai : Nat → Nat} {Aj : Nat → Nat} {At : Nat → Nat} {Ab : Nat → Nat} {Aq : Nat → Nat} {Af : Nat → Nat} {xik : Int32} {xns : Nat → Int32} {xng : Nat → Int32} {xnn : Nat → Int32} {xbc : Int32} {xnc : Int32} {xfc : Int32} {csw : Int32} {cca : Int32} {csi : Int32} {cab : Int32} {cun : Int32} {csg : Int32} {cfa : Nat → Int32} {che : Nat → Int32} {cst : Nat → Int32} {dsw : Int32} {dca : Int32} {dsi : Int32} {dab : Int32} {dun : Int32} {dsg : Int32} {dfa : Nat → Int32} {dhe : Nat → Int32} {dst : Nat → Int32} {isw : Int32} {ica : Int32} {isi : Int32} {iab : Int32} {iun : Int32} {isg : Int32} {ifa : Nat → Int32} {ihe : Nat → Int32} {ist : Nat → Int32} {jsw : Int32} {jca : Int32} {jsi : Int32} {jab : Int32} {jun : Int32} {jsg : Int32} {jfa : Nat → Int32} {jhe : Nat → Int32} {jst : Nat → Int32} {tby : Nat → Int32} {tnu : Nat → Int32} {tln : Int32} {tat : Int32} {tsr : Int32} {ttk : Int32} {tnm : Int32} {tit : Int32} {tft : Int32} {blo : Int32} {bwh : Int32} {bow : Int32} {bom : Int32} {qhe : Nat → Int32} {qbi : Nat → Int32} {qhv : Nat → Int32} {qwo : Nat → Int32} {qts : Int32} {qbb : Int32} {qbc : Int32} {qbw : Int32} {fab : Int64} {fbe : Int64} {xbc_z : Int32} {xnc_z : Int32} {xfc_z : Int32} {r0 : Int32} {x1 : Int32} (X : Cx Γ p s m args meth c RX11 cX11_refuse 2 (some .int) w0) (hf : X_refuse x1 xbc xnc xfc = some (r0, xbc_z, xnc_z, xfc_z)) (Y : Wd Γ w0 s ((WX Γ Ax Ac Ad Ai Aj At Ab Aq Af xik xns xng xnn xbc xnc xfc) ++ ((WC Γ Ac csw cca csi cab cun csg cfa che cst) ++ ((WC Γ Ad dsw dca dsi dab dun dsg dfa dhe dst) ++ ((WC Γ Ai isw ica isi iab iun isg ifa ihe ist) ++ ((WC Γ Aj jsw jca jsi jab jun jsg jfa jhe jst) ++ ((WT Γ At tby tnu tln tat tsr ttk tnm tit tft) ++ ((WB Γ Ab blo bwh bow bom) ++ ((WQ Γ Aq qhe qbi qhv qwo qts qbb qbc qbw) ++ (WF Γ Af fab fbe))))))))) H locs) (hl : lv_has ls 2 [(0, .ref (Ax 0)), (1, .int x1)]) : W p l e rmX_refuse s m args below meth c H locs 0 0 (EI Γ below args s w0 ((WX Γ Ax Ac Ad Ai Aj At Ab Aq Af xik xns xng xnn xbc_z xnc_z xfc_z) ++ ((WC Γ Ac csw cca csi cab cun csg cfa che cst) ++ ((WC Γ Ad dsw dca dsi dab dun dsg dfa dhe dst) ++ ((WC Γ Ai isw ica isi iab iun isg ifa ihe ist) ++ ((WC Γ Aj jsw jca jsi jab jun jsg jfa jhe jst) ++ ((WT Γ At tby tnu tln tat tsr ttk tnm tit tft) ++ ((WB Γ Ab blo bwh bow bom) ++ ((WQ Γ Aq qhe qbi qhv qwo qts qbb qbc qbw) ++ (WF Γ Af fab fbe))))))))) r0) (F0 m 0 ls []) := by
  have hx := X.1
  have hb := X.2.1
  refine lv_iload_n hx hb dX11_refuse_0 rfl (lv_at hl 1 rfl) ?_
  refine lv_bipush (v := (-2 : Int32)) hx hb dX11_refuse_1 (by decide) ?_
  refine lv_icmp_ne (tgt := 19) hx hb dX11_refuse_3 (by decide) (fun c_1 => ?_) (fun c_1 => ?_)
  · have hf := ite_f hf c_1
    refine lv_iload_n hx hb dX11_refuse_19 rfl (lv_at hl 1 rfl) ?_
    refine lv_bipush (v := (-3 : Int32)) hx hb dX11_refuse_20 (by decide) ?_
    refine lv_icmp_ne (tgt := 38) hx hb dX11_refuse_22 (by decide) (fun c_2 => ?_) (fun c_2 => ?_)
    · have hf := ite_f hf c_2
      refine lv_aload_n hx hb dX11_refuse_38 rfl (lv_at hl 0 rfl) ?_
      refine lv_dup hx hb dX11_refuse_39 rfl ?_
      refine gfX11_262 X Y (v := .int xfc) 0 rfl rfl dX11_refuse_40 ?_
      refine lv_iconst (v := (1 : Int32)) hx hb dX11_refuse_43 (by decide) ?_
      refine lv_iadd hx hb dX11_refuse_44 ?_
      refine lv_topi (fun xfc_3 e_xfc_3 => ?_)
      have hf := bnd_eq hf e_xfc_3
      refine pfX11_262 X Y 0 rfl rfl rfl (Nat.le_of_ble_eq_true rfl) (ws' := ((WX Γ Ax Ac Ad Ai Aj At Ab Aq Af xik xns xng xnn xbc xnc xfc_3) ++ ((WC Γ Ac csw cca csi cab cun csg cfa che cst) ++ ((WC Γ Ad dsw dca dsi dab dun dsg dfa dhe dst) ++ ((WC Γ Ai isw ica isi iab iun isg ifa ihe ist) ++ ((WC Γ Aj jsw jca jsi jab jun jsg jfa jhe jst) ++ ((WT Γ At tby tnu tln tat tsr ttk tnm tit tft) ++ ((WB Γ Ab blo bwh bow bom) ++ ((WQ Γ Aq qhe qbi qhv qwo qts qbb qbc qbw) ++ (WF Γ Af fab fbe)))))))))) rfl dX11_refuse_45 (fun H locs Y => ?_)
      refine lv_iload_n hx hb dX11_refuse_48 rfl (lv_at hl 1 rfl) ?_
      obtain ⟨e90, e91, e92, e93⟩ := sj4 hf
      subst e90
      subst e91
      subst e92
      subst e93
      exact x_iret X Y dX11_refuse_49
    · have hf := ite_t hf c_2
      refine lv_aload_n hx hb dX11_refuse_25 rfl (lv_at hl 0 rfl) ?_
      refine lv_dup hx hb dX11_refuse_26 rfl ?_
      refine gfX11_259 X Y (v := .int xnc) 0 rfl rfl dX11_refuse_27 ?_
      refine lv_iconst (v := (1 : Int32)) hx hb dX11_refuse_30 (by decide) ?_
      refine lv_iadd hx hb dX11_refuse_31 ?_
      refine lv_topi (fun xnc_4 e_xnc_4 => ?_)
      have hf := bnd_eq hf e_xnc_4
      refine pfX11_259 X Y 0 rfl rfl rfl (Nat.le_of_ble_eq_true rfl) (ws' := ((WX Γ Ax Ac Ad Ai Aj At Ab Aq Af xik xns xng xnn xbc xnc_4 xfc) ++ ((WC Γ Ac csw cca csi cab cun csg cfa che cst) ++ ((WC Γ Ad dsw dca dsi dab dun dsg dfa dhe dst) ++ ((WC Γ Ai isw ica isi iab iun isg ifa ihe ist) ++ ((WC Γ Aj jsw jca jsi jab jun jsg jfa jhe jst) ++ ((WT Γ At tby tnu tln tat tsr ttk tnm tit tft) ++ ((WB Γ Ab blo bwh bow bom) ++ ((WQ Γ Aq qhe qbi qhv qwo qts qbb qbc qbw) ++ (WF Γ Af fab fbe)))))))))) rfl dX11_refuse_32 (fun H locs Y => ?_)
      refine lv_goto (tgt := 48) hx hb dX11_refuse_35 (by decide) ?_
      refine lv_iload_n hx hb dX11_refuse_48 rfl (lv_at hl 1 rfl) ?_
      obtain ⟨e90, e91, e92, e93⟩ := sj4 hf
      subst e90
      subst e91
      subst e92
      subst e93
      exact x_iret X Y dX11_refuse_49
  · have hf := ite_t hf c_1
    refine lv_aload_n hx hb dX11_refuse_6 rfl (lv_at hl 0 rfl) ?_
    refine lv_dup hx hb dX11_refuse_7 rfl ?_
    refine gfX11_256 X Y (v := .int xbc) 0 rfl rfl dX11_refuse_8 ?_
    refine lv_iconst (v := (1 : Int32)) hx hb dX11_refuse_11 (by decide) ?_
    refine lv_iadd hx hb dX11_refuse_12 ?_
    refine lv_topi (fun xbc_5 e_xbc_5 => ?_)
    have hf := bnd_eq hf e_xbc_5
    refine pfX11_256 X Y 0 rfl rfl rfl (Nat.le_of_ble_eq_true rfl) (ws' := ((WX Γ Ax Ac Ad Ai Aj At Ab Aq Af xik xns xng xnn xbc_5 xnc xfc) ++ ((WC Γ Ac csw cca csi cab cun csg cfa che cst) ++ ((WC Γ Ad dsw dca dsi dab dun dsg dfa dhe dst) ++ ((WC Γ Ai isw ica isi iab iun isg ifa ihe ist) ++ ((WC Γ Aj jsw jca jsi jab jun jsg jfa jhe jst) ++ ((WT Γ At tby tnu tln tat tsr ttk tnm tit tft) ++ ((WB Γ Ab blo bwh bow bom) ++ ((WQ Γ Aq qhe qbi qhv qwo qts qbb qbc qbw) ++ (WF Γ Af fab fbe)))))))))) rfl dX11_refuse_13 (fun H locs Y => ?_)
    refine lv_goto (tgt := 48) hx hb dX11_refuse_16 (by decide) ?_
    refine lv_iload_n hx hb dX11_refuse_48 rfl (lv_at hl 1 rfl) ?_
    obtain ⟨e90, e91, e92, e93⟩ := sj4 hf
    subst e90
    subst e91
    subst e92
    subst e93
    exact x_iret X Y dX11_refuse_49
theorem cX_refuse {l : Launch} {Γ : Gm} {Ax : Nat → Nat} {Ac : Nat → Nat} {Ad : Nat → Nat} {Ai : Nat → Nat} {Aj : Nat → Nat} {At : Nat → Nat} {Ab : Nat → Nat} {Aq : Nat → Nat} {Af : Nat → Nat} {xik : Int32} {xns : Nat → Int32} {xng : Nat → Int32} {xnn : Nat → Int32} {xbc : Int32} {xnc : Int32} {xfc : Int32} {csw : Int32} {cca : Int32} {csi : Int32} {cab : Int32} {cun : Int32} {csg : Int32} {cfa : Nat → Int32} {che : Nat → Int32} {cst : Nat → Int32} {dsw : Int32} {dca : Int32} {dsi : Int32} {dab : Int32} {dun : Int32} {dsg : Int32} {dfa : Nat → Int32} {dhe : Nat → Int32} {dst : Nat → Int32} {isw : Int32} {ica : Int32} {isi : Int32} {iab : Int32} {iun : Int32} {isg : Int32} {ifa : Nat → Int32} {ihe : Nat → Int32} {ist : Nat → Int32} {jsw : Int32} {jca : Int32} {jsi : Int32} {jab : Int32} {jun : Int32} {jsg : Int32} {jfa : Nat → Int32} {jhe : Nat → Int32} {jst : Nat → Int32} {tby : Nat → Int32} {tnu : Nat → Int32} {tln : Int32} {tat : Int32} {tsr : Int32} {ttk : Int32} {tnm : Int32} {tit : Int32} {tft : Int32} {blo : Int32} {bwh : Int32} {bow : Int32} {bom : Int32} {qhe : Nat → Int32} {qbi : Nat → Int32} {qhv : Nat → Int32} {qwo : Nat → Int32} {qts : Int32} {qbb : Int32} {qbc : Int32} {qbw : Int32} {fab : Int64} {fbe : Int64} {xbc_z : Int32} {xnc_z : Int32} {xfc_z : Int32} {r0 : Int32} {x1 : Int32} (h : X_refuse x1 xbc xnc xfc = some (r0, xbc_z, xnc_z, xfc_z)) : CI l Γ yX11_refuse (Cond.code yX11_refuse cX11_refuse 2 (some .int) :: GW) rmX_refuse [.ref (Ax 0), .int x1] ((WX Γ Ax Ac Ad Ai Aj At Ab Aq Af xik xns xng xnn xbc xnc xfc) ++ ((WC Γ Ac csw cca csi cab cun csg cfa che cst) ++ ((WC Γ Ad dsw dca dsi dab dun dsg dfa dhe dst) ++ ((WC Γ Ai isw ica isi iab iun isg ifa ihe ist) ++ ((WC Γ Aj jsw jca jsi jab jun jsg jfa jhe jst) ++ ((WT Γ At tby tnu tln tat tsr ttk tnm tit tft) ++ ((WB Γ Ab blo bwh bow bom) ++ ((WQ Γ Aq qhe qbi qhv qwo qts qbb qbc qbw) ++ (WF Γ Af fab fbe))))))))) ((WX Γ Ax Ac Ad Ai Aj At Ab Aq Af xik xns xng xnn xbc_z xnc_z xfc_z) ++ ((WC Γ Ac csw cca csi cab cun csg cfa che cst) ++ ((WC Γ Ad dsw dca dsi dab dun dsg dfa dhe dst) ++ ((WC Γ Ai isw ica isi iab iun isg ifa ihe ist) ++ ((WC Γ Aj jsw jca jsi jab jun jsg jfa jhe jst) ++ ((WT Γ At tby tnu tln tat tsr ttk tnm tit tft) ++ ((WB Γ Ab blo bwh bow bom) ++ ((WQ Γ Aq qhe qbi qhv qwo qts qbb qbc qbw) ++ (WF Γ Af fab fbe))))))))) r0 := ofBody (Qc := QcI Γ _ _ r0) (by decide) (Nat.le_of_ble_eq_true rfl) (fun p e s m below meth c ls _ X Y hl => bX_refuse_e X h Y hl)
end
