section
variable {p : Program} {l : Launch} {e : Env} {R : Room} {s : State} {m : MethodId} {args : Array Value} {below : List Frame} {meth : Method} {c : Code} {H : Heap} {locs : List Loc} {Q : State → Prop} {cells slots : Nat}
variable {Γ : Gm} {own : String} {cc : ByteArray} {nL : Nat} {ret : Option FieldType} {w0 ws ws' : va_W} {pc : Nat} {ls : Array Slot} {rest : List Value} {a : Nat}
def rmM_odds : Room := { frames := 3, cells := 0, slots := 0, locals := 66 }
def M_odds_21 (rc21 : Int32 → Int32 → Int32 → (Nat → Int32) → (Nat → Int32) → Int64 → Int64 → Option (Int32 × (Nat → Int32) × Int64 × Int64)) (x1 : Int32) (x2 : Int32) (x3 : Int32) (w : Nat → Int32) (rf : Nat → Int32) (fa : Int64) (fb : Int64) : Option (Int32 × (Nat → Int32) × Int64 × Int64) := if (x1 + (10 : Int32)) ≤ x3 then (bd3 (M_tellsPart x2.toInt64 (10 : Int64) fa fb) (fun (r_2 : Int32) (fa_3 : Int64) (fb_4 : Int64) => some (r_2, rf, fa_3, fb_4))) else (bd1 (M_isAlive (w 5) x3 w) (fun (r_6 : Int32) => if r_6 = 0 then (bnd (x2 + (0 : Int32)) (fun (x2_8 : Int32) => bnd (x3 + (1 : Int32)) (fun (x3_9 : Int32) => rc21 x1 x2_8 x3_9 w rf fa fb))) else (bnd (x2 + (1 : Int32)) (fun (x2_10 : Int32) => bnd (x3 + (1 : Int32)) (fun (x3_11 : Int32) => rc21 x1 x2_10 x3_11 w rf fa fb)))))
set_option maxHeartbeats 4000000 in
set_option maxRecDepth 100000 in
theorem bM_odds_21 {Am : Nat → Nat} {w : Nat → Int32} {kp : Nat → Int32} {tx : Nat → Int32} {td : Int32} {rf : Nat → Int32} {fa : Int64} {fb : Int64} {ap : Int32} {sp : Int32} {iw : Int32} {ig : Int32} {nu : Nat → Int32} {lst : Int32} {lwo : Int32} {hh : Int64} {rf_z : Nat → Int32} {fa_z : Int64} {fb_z : Int64} {r0 : Int32} {x1 : Int32} {x2 : Int32} {x3 : Int32} {rc21 : Int32 → Int32 → Int32 → (Nat → Int32) → (Nat → Int32) → Int64 → Int64 → Option (Int32 × (Nat → Int32) × Int64 × Int64)} (X : Cx Γ p s m args meth c RX12 cX12_odds 4 (some .int) w0) (h21 : ∀ (x1 : Int32) (x2 : Int32) (x3 : Int32) (w : Nat → Int32) (rf : Nat → Int32) (fa : Int64) (fb : Int64), rc21 x1 x2 x3 w rf fa fb = some (r0, rf_z, fa_z, fb_z) → ∀ (H : Heap) (locs : List Loc) (ls : Array Slot), Wd Γ w0 s (WM Γ Am w kp tx td rf fa fb ap sp iw ig nu lst lwo hh) H locs → lv_has ls 4 [(0, .ref (Am 0)), (1, .int x1), (2, .int x2), (3, .int x3)] → W p l e rmM_odds s m args below meth c H locs 0 0 (EI Γ below args s w0 (WM Γ Am w kp tx td rf_z fa_z fb_z ap sp iw ig nu lst lwo hh) r0) (F0 m 21 ls [])) (hf : M_odds_21 rc21 x1 x2 x3 w rf fa fb = some (r0, rf_z, fa_z, fb_z)) (Y : Wd Γ w0 s (WM Γ Am w kp tx td rf fa fb ap sp iw ig nu lst lwo hh) H locs) (hl : lv_has ls 4 [(0, .ref (Am 0)), (1, .int x1), (2, .int x2), (3, .int x3)]) : W p l e rmM_odds s m args below meth c H locs 0 0 (EI Γ below args s w0 (WM Γ Am w kp tx td rf_z fa_z fb_z ap sp iw ig nu lst lwo hh) r0) (F0 m 21 ls []) := by
  have hx := X.1
  have hb := X.2.1
  refine lv_iload_n hx hb dX12_odds_21 rfl (lv_at hl 3 rfl) ?_
  refine lv_iload_n hx hb dX12_odds_22 rfl (lv_at hl 1 rfl) ?_
  refine lv_bipush (v := (10 : Int32)) hx hb dX12_odds_23 (by decide) ?_
  refine lv_iadd hx hb dX12_odds_25 ?_
  refine lv_icmp_ge (tgt := 57) hx hb dX12_odds_26 (by decide) (fun c_1 => ?_) (fun c_1 => ?_)
  · have hf := ite_t hf c_1
    refine lv_aload_n hx hb dX12_odds_57 rfl (lv_at hl 0 rfl) ?_
    refine lv_iload_n hx hb dX12_odds_58 rfl (lv_at hl 2 rfl) ?_
    refine lv_i2l (v := x2.toInt64) hx hb dX12_odds_59 rfl ?_
    refine lv_ldc2 (v := (10 : Int64)) hx hb X.2.2.2.1 (X.2.2.2.2.1 _ kw179) dX12_odds_60 ?_
    obtain ⟨r_2, fa_3, fb_4, ho_5, hf⟩ := bd3_some hf
    refine t_i Y (bkS Y) (r_V (As := [.long x2.toInt64, .long (10 : Int64)]) (rest := []) X (c_preS X Y) (cM_tellsPart ho_5) (cwX12_186 X (by decide)) (va_recv X.K Y.1 (q := (RX12, TX12, 15)) (q0 := 0) (ci := 12) rfl rfl) rfl hl.1 (Nat.le_of_ble_eq_true rfl) rfl dX12_odds_63 ⟨Nat.zero_le _, Nat.zero_le _⟩) (fun H locs Y => ?_)
    obtain ⟨e90, e91, e92, e93⟩ := sj4 hf
    subst e90
    subst e91
    subst e92
    subst e93
    exact x_iret X Y dX12_odds_66
  · have hf := ite_f hf c_1
    refine lv_iload_n hx hb dX12_odds_29 rfl (lv_at hl 2 rfl) ?_
    refine lv_aload_n hx hb dX12_odds_30 rfl (lv_at hl 0 rfl) ?_
    refine lv_aload_n hx hb dX12_odds_31 rfl (lv_at hl 0 rfl) ?_
    refine gfX12_7 X Y (v := .ref (Am 1)) 0 rfl rfl dX12_odds_32 ?_
    refine lv_iconst (v := (5 : Int32)) hx hb dX12_odds_35 (by decide) ?_
    refine x_iald X Y 1 rfl (j := 5) rfl rfl dX12_odds_36 ?_
    refine lv_iload_n hx hb dX12_odds_37 rfl (lv_at hl 3 rfl) ?_
    obtain ⟨r_6, ho_12, hf⟩ := bd1_some hf
    refine t_i Y (bkS Y) (r_V (As := [.int (w 5), .int x3]) (rest := [.int x2]) X (c_preS X Y) (cM_isAlive ho_12) (cwX12_166 X (by decide)) (va_recv X.K Y.1 (q := (RX12, TX12, 15)) (q0 := 0) (ci := 12) rfl rfl) rfl hl.1 (Nat.le_of_ble_eq_true rfl) rfl dX12_odds_38 ⟨Nat.zero_le _, Nat.zero_le _⟩) (fun H locs Y => ?_)
    refine lv_if_eq (tgt := 48) hx hb dX12_odds_41 (by decide) (fun c_7 => ?_) (fun c_7 => ?_)
    · have hf := ite_t hf c_7
      refine lv_iconst (v := (0 : Int32)) hx hb dX12_odds_48 (by decide) ?_
      refine lv_iadd hx hb dX12_odds_49 ?_
      refine lv_topi (fun x2_8 e_x2_8 => ?_)
      have hf := bnd_eq hf e_x2_8
      refine lv_istore_n (lv' := [(2, .int x2_8), (0, .ref (Am 0)), (1, .int x1), (3, .int x3)]) hx hb dX12_odds_50 rfl hl (by decide) rfl (fun ls hl => ?_)
      obtain ⟨x3_9, e_x3_9⟩ : ∃ z : Int32, z = (x3 + (1 : Int32)) := ⟨_, rfl⟩
      have hf := bnd_eq hf e_x3_9
      refine lv_iinc (v := x3_9) (lv' := [(3, .int x3_9), (2, .int x2_8), (0, .ref (Am 0)), (1, .int x1)]) hx hb dX12_odds_51 hl (k := 3) rfl (by rw [e_x3_9]; rfl) (by decide) rfl (fun ls hl => ?_)
      refine lv_goto (tgt := 21) hx hb dX12_odds_54 (by decide) ?_
      exact h21 _ _ _ _ _ _ _ hf _ _ _ Y (lv_sub hl [2, 3, 1, 0] rfl)
    · have hf := ite_f hf c_7
      refine lv_iconst (v := (1 : Int32)) hx hb dX12_odds_44 (by decide) ?_
      refine lv_goto (tgt := 49) hx hb dX12_odds_45 (by decide) ?_
      refine lv_iadd hx hb dX12_odds_49 ?_
      refine lv_topi (fun x2_10 e_x2_10 => ?_)
      have hf := bnd_eq hf e_x2_10
      refine lv_istore_n (lv' := [(2, .int x2_10), (0, .ref (Am 0)), (1, .int x1), (3, .int x3)]) hx hb dX12_odds_50 rfl hl (by decide) rfl (fun ls hl => ?_)
      obtain ⟨x3_11, e_x3_11⟩ : ∃ z : Int32, z = (x3 + (1 : Int32)) := ⟨_, rfl⟩
      have hf := bnd_eq hf e_x3_11
      refine lv_iinc (v := x3_11) (lv' := [(3, .int x3_11), (2, .int x2_10), (0, .ref (Am 0)), (1, .int x1)]) hx hb dX12_odds_51 hl (k := 3) rfl (by rw [e_x3_11]; rfl) (by decide) rfl (fun ls hl => ?_)
      refine lv_goto (tgt := 21) hx hb dX12_odds_54 (by decide) ?_
      exact h21 _ _ _ _ _ _ _ hf _ _ _ Y (lv_sub hl [2, 3, 1, 0] rfl)
def M_odds_L21 : Nat → Int32 → Int32 → Int32 → (Nat → Int32) → (Nat → Int32) → Int64 → Int64 → Option (Int32 × (Nat → Int32) × Int64 × Int64)
  | 0, _, _, _, _, _, _, _ => none
  | n + 1, x1, x2, x3, w, rf, fa, fb => M_odds_21 (M_odds_L21 n) x1 x2 x3 w rf fa fb
theorem lM_odds_21 {Am : Nat → Nat} {kp : Nat → Int32} {tx : Nat → Int32} {td : Int32} {ap : Int32} {sp : Int32} {iw : Int32} {ig : Int32} {nu : Nat → Int32} {lst : Int32} {lwo : Int32} {hh : Int64} {rf_z : Nat → Int32} {fa_z : Int64} {fb_z : Int64} {r0 : Int32} (X : Cx Γ p s m args meth c RX12 cX12_odds 4 (some .int) w0) : ∀ (n : Nat) (x1 : Int32) (x2 : Int32) (x3 : Int32) (w : Nat → Int32) (rf : Nat → Int32) (fa : Int64) (fb : Int64), M_odds_L21 n x1 x2 x3 w rf fa fb = some (r0, rf_z, fa_z, fb_z) → ∀ (H : Heap) (locs : List Loc) (ls : Array Slot), Wd Γ w0 s (WM Γ Am w kp tx td rf fa fb ap sp iw ig nu lst lwo hh) H locs → lv_has ls 4 [(0, .ref (Am 0)), (1, .int x1), (2, .int x2), (3, .int x3)] → W p l e rmM_odds s m args below meth c H locs 0 0 (EI Γ below args s w0 (WM Γ Am w kp tx td rf_z fa_z fb_z ap sp iw ig nu lst lwo hh) r0) (F0 m 21 ls []) := by
  intro n
  induction n with
  | zero => intro x1 x2 x3 w rf fa fb hf; cases hf
  | succ n ih => intro x1 x2 x3 w rf fa fb hf H locs ls Y hl; exact bM_odds_21 X ih hf Y hl
def M_odds (x1 : Int32) (w : Nat → Int32) (rf : Nat → Int32) (fa : Int64) (fb : Int64) : Option (Int32 × (Nat → Int32) × Int64 × Int64) := bd1 (M_in x1.toInt64 (0 : Int64) (191 : Int64)) (fun (r_1 : Int32) => if r_1 = 0 then (bd2 (M_bad rf) (fun (r_3 : Int32) (rf_4 : Nat → Int32) => some (r_3, rf_4, fa, fb))) else (M_odds_L21 FU x1 (0 : Int32) x1 w rf fa fb))
set_option maxHeartbeats 4000000 in
set_option maxRecDepth 100000 in
theorem bM_odds_e {Am : Nat → Nat} {w : Nat → Int32} {kp : Nat → Int32} {tx : Nat → Int32} {td : Int32} {rf : Nat → Int32} {fa : Int64} {fb : Int64} {ap : Int32} {sp : Int32} {iw : Int32} {ig : Int32} {nu : Nat → Int32} {lst : Int32} {lwo : Int32} {hh : Int64} {rf_z : Nat → Int32} {fa_z : Int64} {fb_z : Int64} {r0 : Int32} {x1 : Int32} (X : Cx Γ p s m args meth c RX12 cX12_odds 4 (some .int) w0) (hf : M_odds x1 w rf fa fb = some (r0, rf_z, fa_z, fb_z)) (Y : Wd Γ w0 s (WM Γ Am w kp tx td rf fa fb ap sp iw ig nu lst lwo hh) H locs) (hl : lv_has ls 4 [(0, .ref (Am 0)), (1, .int x1)]) : W p l e rmM_odds s m args below meth c H locs 0 0 (EI Γ below args s w0 (WM Γ Am w kp tx td rf_z fa_z fb_z ap sp iw ig nu lst lwo hh) r0) (F0 m 0 ls []) := by
  have hx := X.1
  have hb := X.2.1
  refine lv_iload_n hx hb dX12_odds_0 rfl (lv_at hl 1 rfl) ?_
  refine lv_i2l (v := x1.toInt64) hx hb dX12_odds_1 rfl ?_
  refine lv_lconst (v := (0 : Int64)) hx hb dX12_odds_2 (by decide) ?_
  refine lv_ldc2 (v := (191 : Int64)) hx hb X.2.2.2.1 (X.2.2.2.2.1 _ kw178) dX12_odds_3 ?_
  obtain ⟨r_1, ho_6, hf⟩ := bd1_some hf
  refine t_i Y (bk0 Y) (r_S (As := [.long x1.toInt64, .long (0 : Int64), .long (191 : Int64)]) (rest := []) X (c_pre0 X Y) (cM_in ho_6) (cwX12_34 X (by decide)) rfl hl.1 (Nat.le_of_ble_eq_true rfl) rfl dX12_odds_6 ⟨Nat.zero_le _, Nat.zero_le _⟩) (fun H locs Y => ?_)
  refine lv_if_ne (tgt := 17) hx hb dX12_odds_9 (by decide) (fun c_2 => ?_) (fun c_2 => ?_)
  · have hf := ite_f hf c_2
    refine lv_iconst (v := (0 : Int32)) hx hb dX12_odds_17 (by decide) ?_
    refine lv_istore_n (lv' := [(2, .int (0 : Int32)), (0, .ref (Am 0)), (1, .int x1)]) hx hb dX12_odds_18 rfl hl (by decide) rfl (fun ls hl => ?_)
    refine lv_iload_n hx hb dX12_odds_19 rfl (lv_at hl 2 rfl) ?_
    refine lv_istore_n (lv' := [(3, .int x1), (2, .int (0 : Int32)), (0, .ref (Am 0)), (1, .int x1)]) hx hb dX12_odds_20 rfl hl (by decide) rfl (fun ls hl => ?_)
    exact lM_odds_21 X _ _ _ _ _ _ _ _ hf _ _ _ Y (lv_sub hl [2, 3, 1, 0] rfl)
  · have hf := ite_t hf c_2
    refine lv_aload_n hx hb dX12_odds_12 rfl (lv_at hl 0 rfl) ?_
    obtain ⟨r_3, rf_4, ho_5, hf⟩ := bd2_some hf
    refine t_i Y (bkS Y) (r_V (As := []) (rest := []) X (c_preS X Y) (cM_bad ho_5) (cwX12_44 X (by decide)) (va_recv X.K Y.1 (q := (RX12, TX12, 15)) (q0 := 0) (ci := 12) rfl rfl) rfl hl.1 (Nat.le_of_ble_eq_true rfl) rfl dX12_odds_13 ⟨Nat.zero_le _, Nat.zero_le _⟩) (fun H locs Y => ?_)
    obtain ⟨e90, e91, e92, e93⟩ := sj4 hf
    subst e90
    subst e91
    subst e92
    subst e93
    exact x_iret X Y dX12_odds_16
theorem cM_odds {l : Launch} {Γ : Gm} {Am : Nat → Nat} {w : Nat → Int32} {kp : Nat → Int32} {tx : Nat → Int32} {td : Int32} {rf : Nat → Int32} {fa : Int64} {fb : Int64} {ap : Int32} {sp : Int32} {iw : Int32} {ig : Int32} {nu : Nat → Int32} {lst : Int32} {lwo : Int32} {hh : Int64} {rf_z : Nat → Int32} {fa_z : Int64} {fb_z : Int64} {r0 : Int32} {x1 : Int32} (h : M_odds x1 w rf fa fb = some (r0, rf_z, fa_z, fb_z)) : CI l Γ yX12_odds (Cond.code yX12_odds cX12_odds 4 (some .int) :: GW) rmM_odds [.ref (Am 0), .int x1] (WM Γ Am w kp tx td rf fa fb ap sp iw ig nu lst lwo hh) (WM Γ Am w kp tx td rf_z fa_z fb_z ap sp iw ig nu lst lwo hh) r0 := ofBody (Qc := QcI Γ _ _ r0) (by decide) (Nat.le_of_ble_eq_true rfl) (fun p e s m below meth c ls _ X Y hl => bM_odds_e X h Y hl)
def rmM_safe : Room := { frames := 3, cells := 0, slots := 0, locals := 66 }
def M_safe_4 (rc4 : Int32 → Int32 → (Nat → Int32) → Option (Int32)) (x1 : Int32) (x2 : Int32) (w : Nat → Int32) : Option (Int32) := if (200 : Int32) < x2 then (some x1) else (bd1 (M_isAlive (w 5) x2 w) (fun (r_2 : Int32) => if r_2 = 0 then (bnd (x2 + (1 : Int32)) (fun (x2_4 : Int32) => rc4 x1 x2_4 w)) else (bnd (x2 + (1 : Int32)) (fun (x2_5 : Int32) => rc4 x2 x2_5 w))))
set_option maxHeartbeats 4000000 in
set_option maxRecDepth 100000 in
theorem bM_safe_4 {Am : Nat → Nat} {w : Nat → Int32} {kp : Nat → Int32} {tx : Nat → Int32} {td : Int32} {rf : Nat → Int32} {fa : Int64} {fb : Int64} {ap : Int32} {sp : Int32} {iw : Int32} {ig : Int32} {nu : Nat → Int32} {lst : Int32} {lwo : Int32} {hh : Int64} {r0 : Int32} {x1 : Int32} {x2 : Int32} {rc4 : Int32 → Int32 → (Nat → Int32) → Option (Int32)} (X : Cx Γ p s m args meth c RX12 cX12_safe 3 (some .int) w0) (h4 : ∀ (x1 : Int32) (x2 : Int32) (w : Nat → Int32), rc4 x1 x2 w = some r0 → ∀ (H : Heap) (locs : List Loc) (ls : Array Slot), Wd Γ w0 s (WM Γ Am w kp tx td rf fa fb ap sp iw ig nu lst lwo hh) H locs → lv_has ls 3 [(0, .ref (Am 0)), (1, .int x1), (2, .int x2)] → W p l e rmM_safe s m args below meth c H locs 0 0 (EI Γ below args s w0 (WM Γ Am w kp tx td rf fa fb ap sp iw ig nu lst lwo hh) r0) (F0 m 4 ls [])) (hf : M_safe_4 rc4 x1 x2 w = some r0) (Y : Wd Γ w0 s (WM Γ Am w kp tx td rf fa fb ap sp iw ig nu lst lwo hh) H locs) (hl : lv_has ls 3 [(0, .ref (Am 0)), (1, .int x1), (2, .int x2)]) : W p l e rmM_safe s m args below meth c H locs 0 0 (EI Γ below args s w0 (WM Γ Am w kp tx td rf fa fb ap sp iw ig nu lst lwo hh) r0) (F0 m 4 ls []) := by
  have hx := X.1
  have hb := X.2.1
  refine lv_iload_n hx hb dX12_safe_4 rfl (lv_at hl 2 rfl) ?_
  refine lv_sipush (v := (200 : Int32)) hx hb dX12_safe_5 (by decide) ?_
  refine lv_icmp_gt (tgt := 37) hx hb dX12_safe_8 (by decide) (fun c_1 => ?_) (fun c_1 => ?_)
  · have hf := ite_t hf c_1
    refine lv_iload_n hx hb dX12_safe_37 rfl (lv_at hl 1 rfl) ?_
    have e90 := Option.some.inj hf
    subst e90
    exact x_iret X Y dX12_safe_38
  · have hf := ite_f hf c_1
    refine lv_aload_n hx hb dX12_safe_11 rfl (lv_at hl 0 rfl) ?_
    refine lv_aload_n hx hb dX12_safe_12 rfl (lv_at hl 0 rfl) ?_
    refine gfX12_7 X Y (v := .ref (Am 1)) 0 rfl rfl dX12_safe_13 ?_
    refine lv_iconst (v := (5 : Int32)) hx hb dX12_safe_16 (by decide) ?_
    refine x_iald X Y 1 rfl (j := 5) rfl rfl dX12_safe_17 ?_
    refine lv_iload_n hx hb dX12_safe_18 rfl (lv_at hl 2 rfl) ?_
    obtain ⟨r_2, ho_6, hf⟩ := bd1_some hf
    refine t_i Y (bkS Y) (r_V (As := [.int (w 5), .int x2]) (rest := []) X (c_preS X Y) (cM_isAlive ho_6) (cwX12_166 X (by decide)) (va_recv X.K Y.1 (q := (RX12, TX12, 15)) (q0 := 0) (ci := 12) rfl rfl) rfl hl.1 (Nat.le_of_ble_eq_true rfl) rfl dX12_safe_19 ⟨Nat.zero_le _, Nat.zero_le _⟩) (fun H locs Y => ?_)
    refine lv_if_eq (tgt := 29) hx hb dX12_safe_22 (by decide) (fun c_3 => ?_) (fun c_3 => ?_)
    · have hf := ite_t hf c_3
      refine lv_iload_n hx hb dX12_safe_29 rfl (lv_at hl 1 rfl) ?_
      refine lv_istore_n (lv' := [(1, .int x1), (0, .ref (Am 0)), (2, .int x2)]) hx hb dX12_safe_30 rfl hl (by decide) rfl (fun ls hl => ?_)
      obtain ⟨x2_4, e_x2_4⟩ : ∃ z : Int32, z = (x2 + (1 : Int32)) := ⟨_, rfl⟩
      have hf := bnd_eq hf e_x2_4
      refine lv_iinc (v := x2_4) (lv' := [(2, .int x2_4), (1, .int x1), (0, .ref (Am 0))]) hx hb dX12_safe_31 hl (k := 2) rfl (by rw [e_x2_4]; rfl) (by decide) rfl (fun ls hl => ?_)
      refine lv_goto (tgt := 4) hx hb dX12_safe_34 (by decide) ?_
      exact h4 _ _ _ hf _ _ _ Y (lv_sub hl [2, 1, 0] rfl)
    · have hf := ite_f hf c_3
      refine lv_iload_n hx hb dX12_safe_25 rfl (lv_at hl 2 rfl) ?_
      refine lv_goto (tgt := 30) hx hb dX12_safe_26 (by decide) ?_
      refine lv_istore_n (lv' := [(1, .int x2), (0, .ref (Am 0)), (2, .int x2)]) hx hb dX12_safe_30 rfl hl (by decide) rfl (fun ls hl => ?_)
      obtain ⟨x2_5, e_x2_5⟩ : ∃ z : Int32, z = (x2 + (1 : Int32)) := ⟨_, rfl⟩
      have hf := bnd_eq hf e_x2_5
      refine lv_iinc (v := x2_5) (lv' := [(2, .int x2_5), (1, .int x2), (0, .ref (Am 0))]) hx hb dX12_safe_31 hl (k := 2) rfl (by rw [e_x2_5]; rfl) (by decide) rfl (fun ls hl => ?_)
      refine lv_goto (tgt := 4) hx hb dX12_safe_34 (by decide) ?_
      exact h4 _ _ _ hf _ _ _ Y (lv_sub hl [2, 1, 0] rfl)
def M_safe_L4 : Nat → Int32 → Int32 → (Nat → Int32) → Option (Int32)
  | 0, _, _, _ => none
  | n + 1, x1, x2, w => M_safe_4 (M_safe_L4 n) x1 x2 w
theorem lM_safe_4 {Am : Nat → Nat} {kp : Nat → Int32} {tx : Nat → Int32} {td : Int32} {rf : Nat → Int32} {fa : Int64} {fb : Int64} {ap : Int32} {sp : Int32} {iw : Int32} {ig : Int32} {nu : Nat → Int32} {lst : Int32} {lwo : Int32} {hh : Int64} {r0 : Int32} (X : Cx Γ p s m args meth c RX12 cX12_safe 3 (some .int) w0) : ∀ (n : Nat) (x1 : Int32) (x2 : Int32) (w : Nat → Int32), M_safe_L4 n x1 x2 w = some r0 → ∀ (H : Heap) (locs : List Loc) (ls : Array Slot), Wd Γ w0 s (WM Γ Am w kp tx td rf fa fb ap sp iw ig nu lst lwo hh) H locs → lv_has ls 3 [(0, .ref (Am 0)), (1, .int x1), (2, .int x2)] → W p l e rmM_safe s m args below meth c H locs 0 0 (EI Γ below args s w0 (WM Γ Am w kp tx td rf fa fb ap sp iw ig nu lst lwo hh) r0) (F0 m 4 ls []) := by
  intro n
  induction n with
  | zero => intro x1 x2 w hf; cases hf
  | succ n ih => intro x1 x2 w hf H locs ls Y hl; exact bM_safe_4 X ih hf Y hl
def M_safe (w : Nat → Int32) : Option (Int32) := M_safe_L4 FU (-1 : Int32) (0 : Int32) w
set_option maxHeartbeats 4000000 in
set_option maxRecDepth 100000 in
theorem bM_safe_e {Am : Nat → Nat} {w : Nat → Int32} {kp : Nat → Int32} {tx : Nat → Int32} {td : Int32} {rf : Nat → Int32} {fa : Int64} {fb : Int64} {ap : Int32} {sp : Int32} {iw : Int32} {ig : Int32} {nu : Nat → Int32} {lst : Int32} {lwo : Int32} {hh : Int64} {r0 : Int32} (X : Cx Γ p s m args meth c RX12 cX12_safe 3 (some .int) w0) (hf : M_safe w = some r0) (Y : Wd Γ w0 s (WM Γ Am w kp tx td rf fa fb ap sp iw ig nu lst lwo hh) H locs) (hl : lv_has ls 3 [(0, .ref (Am 0))]) : W p l e rmM_safe s m args below meth c H locs 0 0 (EI Γ below args s w0 (WM Γ Am w kp tx td rf fa fb ap sp iw ig nu lst lwo hh) r0) (F0 m 0 ls []) := by
  have hx := X.1
  have hb := X.2.1
  refine lv_iconst (v := (-1 : Int32)) hx hb dX12_safe_0 (by decide) ?_
  refine lv_istore_n (lv' := [(1, .int (-1 : Int32)), (0, .ref (Am 0))]) hx hb dX12_safe_1 rfl hl (by decide) rfl (fun ls hl => ?_)
  refine lv_iconst (v := (0 : Int32)) hx hb dX12_safe_2 (by decide) ?_
  refine lv_istore_n (lv' := [(2, .int (0 : Int32)), (1, .int (-1 : Int32)), (0, .ref (Am 0))]) hx hb dX12_safe_3 rfl hl (by decide) rfl (fun ls hl => ?_)
  exact lM_safe_4 X _ _ _ _ hf _ _ _ Y (lv_sub hl [2, 1, 0] rfl)
theorem cM_safe {l : Launch} {Γ : Gm} {Am : Nat → Nat} {w : Nat → Int32} {kp : Nat → Int32} {tx : Nat → Int32} {td : Int32} {rf : Nat → Int32} {fa : Int64} {fb : Int64} {ap : Int32} {sp : Int32} {iw : Int32} {ig : Int32} {nu : Nat → Int32} {lst : Int32} {lwo : Int32} {hh : Int64} {r0 : Int32} (h : M_safe w = some r0) : CI l Γ yX12_safe (Cond.code yX12_safe cX12_safe 3 (some .int) :: GW) rmM_safe [.ref (Am 0)] (WM Γ Am w kp tx td rf fa fb ap sp iw ig nu lst lwo hh) (WM Γ Am w kp tx td rf fa fb ap sp iw ig nu lst lwo hh) r0 := ofBody (Qc := QcI Γ _ _ r0) (by decide) (Nat.le_of_ble_eq_true rfl) (fun p e s m below meth c ls _ X Y hl => bM_safe_e X h Y hl)
def rmM_voyages : Room := { frames := 4, cells := 0, slots := 0, locals := 104 }
def M_voyages_24 (w : Nat → Int32) (rf : Nat → Int32) (lst : Int32) (lwo : Int32) : Option (Int32 × (Nat → Int32) × Int32 × Int32) := bd2 (M_bad rf) (fun (r_1 : Int32) (rf_2 : Nat → Int32) => some (r_1, rf_2, lst, lwo))
set_option maxHeartbeats 4000000 in
set_option maxRecDepth 100000 in
theorem bM_voyages_24 {Am : Nat → Nat} {w : Nat → Int32} {kp : Nat → Int32} {tx : Nat → Int32} {td : Int32} {rf : Nat → Int32} {fa : Int64} {fb : Int64} {ap : Int32} {sp : Int32} {iw : Int32} {ig : Int32} {nu : Nat → Int32} {lst : Int32} {lwo : Int32} {hh : Int64} {rf_z : Nat → Int32} {lst_z : Int32} {lwo_z : Int32} {r0 : Int32} (X : Cx Γ p s m args meth c RX12 cX12_voyages 7 (some .int) w0) (hf : M_voyages_24 w rf lst lwo = some (r0, rf_z, lst_z, lwo_z)) (Y : Wd Γ w0 s (WM Γ Am w kp tx td rf fa fb ap sp iw ig nu lst lwo hh) H locs) (hl : lv_has ls 7 [(0, .ref (Am 0))]) : W p l e rmM_voyages s m args below meth c H locs 0 0 (EI Γ below args s w0 (WM Γ Am w kp tx td rf_z fa fb ap sp iw ig nu lst_z lwo_z hh) r0) (F0 m 24 ls []) := by
  have hx := X.1
  have hb := X.2.1
  refine lv_aload_n hx hb dX12_voyages_24 rfl (lv_at hl 0 rfl) ?_
  obtain ⟨r_1, rf_2, ho_3, hf⟩ := bd2_some hf
  refine t_i Y (bkS Y) (r_V (As := []) (rest := []) X (c_preS X Y) (cM_bad ho_3) (cwX12_44 X (by decide)) (va_recv X.K Y.1 (q := (RX12, TX12, 15)) (q0 := 0) (ci := 12) rfl rfl) rfl hl.1 (Nat.le_of_ble_eq_true rfl) rfl dX12_voyages_25 ⟨Nat.zero_le _, Nat.zero_le _⟩) (fun H locs Y => ?_)
  obtain ⟨e90, e91, e92, e93⟩ := sj4 hf
  subst e90
  subst e91
  subst e92
  subst e93
  exact x_iret X Y dX12_voyages_28
def M_voyages_43 (rc43 : Int32 → Int64 → Int32 → Int32 → (Nat → Int32) → (Nat → Int32) → Int32 → Int32 → Option (Int32 × (Nat → Int32) × Int32 × Int32)) (x2 : Int32) (x3 : Int64) (x5 : Int32) (x6 : Int32) (w : Nat → Int32) (rf : Nat → Int32) (lst : Int32) (lwo : Int32) : Option (Int32 × (Nat → Int32) × Int32 × Int32) := if x2 ≤ x6 then (bd1 (M_worthOf x5 w) (fun (r_2 : Int32) => some (r_2, rf, lst, lwo))) else (bnd (((x3 * (1103515245 : Int64)) + (12345 : Int64)) - ((x3 * (1103515245 : Int64)) + (12345 : Int64)) / (2147483648 : Int64) * (2147483648 : Int64)) (fun (x3_4 : Int64) => bd2 (M_findLeast x5 ((x3_4 / (65536 : Int64)) - (x3_4 / (65536 : Int64)) / (61 : Int64) * (61 : Int64)).toInt32 (-1 : Int32) (0 : Int32) w lst lwo) (fun (lst_5 : Int32) (lwo_6 : Int32) => if lst_5 = (-1 : Int32) then (some ((0 : Int32), rf, lst_5, lwo_6)) else (bnd (x5 &&& (lst_5 ^^^ (-1 : Int32))) (fun (x5_8 : Int32) => bnd (x6 + (1 : Int32)) (fun (x6_9 : Int32) => rc43 x2 x3_4 x5_8 x6_9 w rf lst_5 lwo_6))))))
set_option maxHeartbeats 4000000 in
set_option maxRecDepth 100000 in
theorem bM_voyages_43 {Am : Nat → Nat} {w : Nat → Int32} {kp : Nat → Int32} {tx : Nat → Int32} {td : Int32} {rf : Nat → Int32} {fa : Int64} {fb : Int64} {ap : Int32} {sp : Int32} {iw : Int32} {ig : Int32} {nu : Nat → Int32} {lst : Int32} {lwo : Int32} {hh : Int64} {rf_z : Nat → Int32} {lst_z : Int32} {lwo_z : Int32} {r0 : Int32} {x2 : Int32} {x3 : Int64} {x5 : Int32} {x6 : Int32} {rc43 : Int32 → Int64 → Int32 → Int32 → (Nat → Int32) → (Nat → Int32) → Int32 → Int32 → Option (Int32 × (Nat → Int32) × Int32 × Int32)} (X : Cx Γ p s m args meth c RX12 cX12_voyages 7 (some .int) w0) (h43 : ∀ (x2 : Int32) (x3 : Int64) (x5 : Int32) (x6 : Int32) (w : Nat → Int32) (rf : Nat → Int32) (lst : Int32) (lwo : Int32), rc43 x2 x3 x5 x6 w rf lst lwo = some (r0, rf_z, lst_z, lwo_z) → ∀ (H : Heap) (locs : List Loc) (ls : Array Slot), Wd Γ w0 s (WM Γ Am w kp tx td rf fa fb ap sp iw ig nu lst lwo hh) H locs → lv_has ls 7 [(0, .ref (Am 0)), (2, .int x2), (3, .long x3), (5, .int x5), (6, .int x6)] → W p l e rmM_voyages s m args below meth c H locs 0 0 (EI Γ below args s w0 (WM Γ Am w kp tx td rf_z fa fb ap sp iw ig nu lst_z lwo_z hh) r0) (F0 m 43 ls [])) (hf : M_voyages_43 rc43 x2 x3 x5 x6 w rf lst lwo = some (r0, rf_z, lst_z, lwo_z)) (Y : Wd Γ w0 s (WM Γ Am w kp tx td rf fa fb ap sp iw ig nu lst lwo hh) H locs) (hl : lv_has ls 7 [(0, .ref (Am 0)), (2, .int x2), (3, .long x3), (5, .int x5), (6, .int x6)]) : W p l e rmM_voyages s m args below meth c H locs 0 0 (EI Γ below args s w0 (WM Γ Am w kp tx td rf_z fa fb ap sp iw ig nu lst_z lwo_z hh) r0) (F0 m 43 ls []) := by
  have hx := X.1
  have hb := X.2.1
  refine lv_iload hx hb dX12_voyages_43 (lv_at hl 4 rfl) ?_
  refine lv_iload_n hx hb dX12_voyages_45 rfl (lv_at hl 1 rfl) ?_
  refine lv_icmp_ge (tgt := 108) hx hb dX12_voyages_46 (by decide) (fun c_1 => ?_) (fun c_1 => ?_)
  · have hf := ite_t hf c_1
    refine lv_aload_n hx hb dX12_voyages_108 rfl (lv_at hl 0 rfl) ?_
    refine lv_iload hx hb dX12_voyages_109 (lv_at hl 3 rfl) ?_
    obtain ⟨r_2, ho_3, hf⟩ := bd1_some hf
    refine t_i Y (bkS Y) (r_V (As := [.int x5]) (rest := []) X (c_preS X Y) (cM_worthOf ho_3) (cwX12_175 X (by decide)) (va_recv X.K Y.1 (q := (RX12, TX12, 15)) (q0 := 0) (ci := 12) rfl rfl) rfl hl.1 (Nat.le_of_ble_eq_true rfl) rfl dX12_voyages_111 ⟨Nat.zero_le _, Nat.zero_le _⟩) (fun H locs Y => ?_)
    obtain ⟨e90, e91, e92, e93⟩ := sj4 hf
    subst e90
    subst e91
    subst e92
    subst e93
    exact x_iret X Y dX12_voyages_114
  · have hf := ite_f hf c_1
    refine lv_lload_n hx hb dX12_voyages_49 rfl (lv_at hl 2 rfl) ?_
    refine lv_ldc2 (v := (1103515245 : Int64)) hx hb X.2.2.2.1 (X.2.2.2.2.1 _ kw182) dX12_voyages_50 ?_
    refine lv_lmul hx hb dX12_voyages_53 ?_
    refine lv_ldc2 (v := (12345 : Int64)) hx hb X.2.2.2.1 (X.2.2.2.2.1 _ kw183) dX12_voyages_54 ?_
    refine lv_ladd hx hb dX12_voyages_57 ?_
    refine lv_ldc2 (v := (2147483648 : Int64)) hx hb X.2.2.2.1 (X.2.2.2.2.1 _ kw184) dX12_voyages_58 ?_
    refine lv_lrem hx hb dX12_voyages_61 (by decide) ?_
    refine lv_topl (fun x3_4 e_x3_4 => ?_)
    have hf := bnd_eq hf e_x3_4
    refine lv_lstore_n (lv' := [(3, .long x3_4), (0, .ref (Am 0)), (2, .int x2), (5, .int x5), (6, .int x6)]) hx hb dX12_voyages_62 rfl hl (by decide) rfl (fun ls hl => ?_)
    refine lv_aload_n hx hb dX12_voyages_63 rfl (lv_at hl 1 rfl) ?_
    refine lv_iload hx hb dX12_voyages_64 (lv_at hl 3 rfl) ?_
    refine lv_lload_n hx hb dX12_voyages_66 rfl (lv_at hl 0 rfl) ?_
    refine lv_ldc2 (v := (65536 : Int64)) hx hb X.2.2.2.1 (X.2.2.2.2.1 _ kw185) dX12_voyages_67 ?_
    refine lv_ldiv hx hb dX12_voyages_70 (by decide) ?_
    refine lv_ldc2 (v := (61 : Int64)) hx hb X.2.2.2.1 (X.2.2.2.2.1 _ kw186) dX12_voyages_71 ?_
    refine lv_lrem hx hb dX12_voyages_74 (by decide) ?_
    refine lv_l2i (v := ((x3_4 / (65536 : Int64)) - (x3_4 / (65536 : Int64)) / (61 : Int64) * (61 : Int64)).toInt32) hx hb dX12_voyages_75 rfl ?_
    refine lv_iconst (v := (-1 : Int32)) hx hb dX12_voyages_76 (by decide) ?_
    refine lv_iconst (v := (0 : Int32)) hx hb dX12_voyages_77 (by decide) ?_
    obtain ⟨lst_5, lwo_6, ho_10, hf⟩ := bd2_some hf
    refine t_v Y (bkS Y) (r_V (As := [.int x5, .int ((x3_4 / (65536 : Int64)) - (x3_4 / (65536 : Int64)) / (61 : Int64) * (61 : Int64)).toInt32, .int (-1 : Int32), .int (0 : Int32)]) (rest := []) X (c_preS X Y) (cM_findLeast ho_10) (cwX12_208 X (by decide)) (va_recv X.K Y.1 (q := (RX12, TX12, 15)) (q0 := 0) (ci := 12) rfl rfl) rfl hl.1 (Nat.le_of_ble_eq_true rfl) rfl dX12_voyages_78 ⟨Nat.zero_le _, Nat.zero_le _⟩) (fun H locs Y => ?_)
    refine lv_aload_n hx hb dX12_voyages_81 rfl (lv_at hl 1 rfl) ?_
    refine gfX12_194 X Y (v := .int lst_5) 0 rfl rfl dX12_voyages_82 ?_
    refine lv_iconst (v := (-1 : Int32)) hx hb dX12_voyages_85 (by decide) ?_
    refine lv_icmp_ne (tgt := 91) hx hb dX12_voyages_86 (by decide) (fun c_7 => ?_) (fun c_7 => ?_)
    · have hf := ite_f hf c_7
      refine lv_iload hx hb dX12_voyages_91 (lv_at hl 3 rfl) ?_
      refine lv_aload_n hx hb dX12_voyages_93 rfl (lv_at hl 1 rfl) ?_
      refine gfX12_194 X Y (v := .int lst_5) 0 rfl rfl dX12_voyages_94 ?_
      refine lv_iconst (v := (-1 : Int32)) hx hb dX12_voyages_97 (by decide) ?_
      refine lv_ixor hx hb dX12_voyages_98 ?_
      refine lv_iand hx hb dX12_voyages_99 ?_
      refine lv_topi (fun x5_8 e_x5_8 => ?_)
      have hf := bnd_eq hf e_x5_8
      refine lv_istore (lv' := [(5, .int x5_8), (3, .long x3_4), (0, .ref (Am 0)), (2, .int x2), (6, .int x6)]) hx hb dX12_voyages_100 hl (by decide) rfl (fun ls hl => ?_)
      obtain ⟨x6_9, e_x6_9⟩ : ∃ z : Int32, z = (x6 + (1 : Int32)) := ⟨_, rfl⟩
      have hf := bnd_eq hf e_x6_9
      refine lv_iinc (v := x6_9) (lv' := [(6, .int x6_9), (5, .int x5_8), (3, .long x3_4), (0, .ref (Am 0)), (2, .int x2)]) hx hb dX12_voyages_102 hl (k := 4) rfl (by rw [e_x6_9]; rfl) (by decide) rfl (fun ls hl => ?_)
      refine lv_goto (tgt := 43) hx hb dX12_voyages_105 (by decide) ?_
      exact h43 _ _ _ _ _ _ _ _ hf _ _ _ Y (lv_sub hl [3, 4, 2, 1, 0] rfl)
    · have hf := ite_t hf c_7
      refine lv_iconst (v := (0 : Int32)) hx hb dX12_voyages_89 (by decide) ?_
      obtain ⟨e90, e91, e92, e93⟩ := sj4 hf
      subst e90
      subst e91
      subst e92
      subst e93
      exact x_iret X Y dX12_voyages_90
def M_voyages_L43 : Nat → Int32 → Int64 → Int32 → Int32 → (Nat → Int32) → (Nat → Int32) → Int32 → Int32 → Option (Int32 × (Nat → Int32) × Int32 × Int32)
  | 0, _, _, _, _, _, _, _, _ => none
  | n + 1, x2, x3, x5, x6, w, rf, lst, lwo => M_voyages_43 (M_voyages_L43 n) x2 x3 x5 x6 w rf lst lwo
theorem lM_voyages_43 {Am : Nat → Nat} {kp : Nat → Int32} {tx : Nat → Int32} {td : Int32} {fa : Int64} {fb : Int64} {ap : Int32} {sp : Int32} {iw : Int32} {ig : Int32} {nu : Nat → Int32} {hh : Int64} {rf_z : Nat → Int32} {lst_z : Int32} {lwo_z : Int32} {r0 : Int32} (X : Cx Γ p s m args meth c RX12 cX12_voyages 7 (some .int) w0) : ∀ (n : Nat) (x2 : Int32) (x3 : Int64) (x5 : Int32) (x6 : Int32) (w : Nat → Int32) (rf : Nat → Int32) (lst : Int32) (lwo : Int32), M_voyages_L43 n x2 x3 x5 x6 w rf lst lwo = some (r0, rf_z, lst_z, lwo_z) → ∀ (H : Heap) (locs : List Loc) (ls : Array Slot), Wd Γ w0 s (WM Γ Am w kp tx td rf fa fb ap sp iw ig nu lst lwo hh) H locs → lv_has ls 7 [(0, .ref (Am 0)), (2, .int x2), (3, .long x3), (5, .int x5), (6, .int x6)] → W p l e rmM_voyages s m args below meth c H locs 0 0 (EI Γ below args s w0 (WM Γ Am w kp tx td rf_z fa fb ap sp iw ig nu lst_z lwo_z hh) r0) (F0 m 43 ls []) := by
  intro n
  induction n with
  | zero => intro x2 x3 x5 x6 w rf lst lwo hf; cases hf
  | succ n ih => intro x2 x3 x5 x6 w rf lst lwo hf H locs ls Y hl; exact bM_voyages_43 X ih hf Y hl
def M_voyages (x1 : Int32) (x2 : Int32) (w : Nat → Int32) (rf : Nat → Int32) (lst : Int32) (lwo : Int32) : Option (Int32 × (Nat → Int32) × Int32 × Int32) := bd1 (M_in x1.toInt64 (0 : Int64) (999999 : Int64)) (fun (r_1 : Int32) => if r_1 = 0 then (M_voyages_24 w rf lst lwo) else (bd1 (M_in x2.toInt64 (0 : Int64) (30 : Int64)) (fun (r_3 : Int32) => if r_3 = 0 then (M_voyages_24 w rf lst lwo) else (bnd x1.toInt64 (fun (x3_5 : Int64) => bnd (w 5) (fun (x5_6 : Int32) => M_voyages_L43 FU x2 x3_5 x5_6 (0 : Int32) w rf lst lwo))))))
set_option maxHeartbeats 4000000 in
set_option maxRecDepth 100000 in
theorem bM_voyages_e {Am : Nat → Nat} {w : Nat → Int32} {kp : Nat → Int32} {tx : Nat → Int32} {td : Int32} {rf : Nat → Int32} {fa : Int64} {fb : Int64} {ap : Int32} {sp : Int32} {iw : Int32} {ig : Int32} {nu : Nat → Int32} {lst : Int32} {lwo : Int32} {hh : Int64} {rf_z : Nat → Int32} {lst_z : Int32} {lwo_z : Int32} {r0 : Int32} {x1 : Int32} {x2 : Int32} (X : Cx Γ p s m args meth c RX12 cX12_voyages 7 (some .int) w0) (hf : M_voyages x1 x2 w rf lst lwo = some (r0, rf_z, lst_z, lwo_z)) (Y : Wd Γ w0 s (WM Γ Am w kp tx td rf fa fb ap sp iw ig nu lst lwo hh) H locs) (hl : lv_has ls 7 [(0, .ref (Am 0)), (1, .int x1), (2, .int x2)]) : W p l e rmM_voyages s m args below meth c H locs 0 0 (EI Γ below args s w0 (WM Γ Am w kp tx td rf_z fa fb ap sp iw ig nu lst_z lwo_z hh) r0) (F0 m 0 ls []) := by
  have hx := X.1
  have hb := X.2.1
  refine lv_iload_n hx hb dX12_voyages_0 rfl (lv_at hl 1 rfl) ?_
  refine lv_i2l (v := x1.toInt64) hx hb dX12_voyages_1 rfl ?_
  refine lv_lconst (v := (0 : Int64)) hx hb dX12_voyages_2 (by decide) ?_
  refine lv_ldc2 (v := (999999 : Int64)) hx hb X.2.2.2.1 (X.2.2.2.2.1 _ kw180) dX12_voyages_3 ?_
  obtain ⟨r_1, ho_8, hf⟩ := bd1_some hf
  refine t_i Y (bk0 Y) (r_S (As := [.long x1.toInt64, .long (0 : Int64), .long (999999 : Int64)]) (rest := []) X (c_pre0 X Y) (cM_in ho_8) (cwX12_34 X (by decide)) rfl hl.1 (Nat.le_of_ble_eq_true rfl) rfl dX12_voyages_6 ⟨Nat.zero_le _, Nat.zero_le _⟩) (fun H locs Y => ?_)
  refine lv_if_eq (tgt := 24) hx hb dX12_voyages_9 (by decide) (fun c_2 => ?_) (fun c_2 => ?_)
  · have hf := ite_t hf c_2
    exact bM_voyages_24 X hf Y (lv_sub hl [0] rfl)
  · have hf := ite_f hf c_2
    refine lv_iload_n hx hb dX12_voyages_12 rfl (lv_at hl 2 rfl) ?_
    refine lv_i2l (v := x2.toInt64) hx hb dX12_voyages_13 rfl ?_
    refine lv_lconst (v := (0 : Int64)) hx hb dX12_voyages_14 (by decide) ?_
    refine lv_ldc2 (v := (30 : Int64)) hx hb X.2.2.2.1 (X.2.2.2.2.1 _ kw181) dX12_voyages_15 ?_
    obtain ⟨r_3, ho_7, hf⟩ := bd1_some hf
    refine t_i Y (bk0 Y) (r_S (As := [.long x2.toInt64, .long (0 : Int64), .long (30 : Int64)]) (rest := []) X (c_pre0 X Y) (cM_in ho_7) (cwX12_34 X (by decide)) rfl hl.1 (Nat.le_of_ble_eq_true rfl) rfl dX12_voyages_18 ⟨Nat.zero_le _, Nat.zero_le _⟩) (fun H locs Y => ?_)
    refine lv_if_ne (tgt := 29) hx hb dX12_voyages_21 (by decide) (fun c_4 => ?_) (fun c_4 => ?_)
    · have hf := ite_f hf c_4
      refine lv_iload_n hx hb dX12_voyages_29 rfl (lv_at hl 1 rfl) ?_
      refine lv_i2l (v := x1.toInt64) hx hb dX12_voyages_30 rfl ?_
      refine lv_topl (fun x3_5 e_x3_5 => ?_)
      have hf := bnd_eq hf e_x3_5
      refine lv_lstore_n (lv' := [(3, .long x3_5), (0, .ref (Am 0)), (1, .int x1), (2, .int x2)]) hx hb dX12_voyages_31 rfl hl (by decide) rfl (fun ls hl => ?_)
      refine lv_aload_n hx hb dX12_voyages_32 rfl (lv_at hl 1 rfl) ?_
      refine gfX12_7 X Y (v := .ref (Am 1)) 0 rfl rfl dX12_voyages_33 ?_
      refine lv_iconst (v := (5 : Int32)) hx hb dX12_voyages_36 (by decide) ?_
      refine x_iald X Y 1 rfl (j := 5) rfl rfl dX12_voyages_37 ?_
      refine lv_topi (fun x5_6 e_x5_6 => ?_)
      have hf := bnd_eq hf e_x5_6
      refine lv_istore (lv' := [(5, .int x5_6), (3, .long x3_5), (0, .ref (Am 0)), (1, .int x1), (2, .int x2)]) hx hb dX12_voyages_38 hl (by decide) rfl (fun ls hl => ?_)
      refine lv_iconst (v := (0 : Int32)) hx hb dX12_voyages_40 (by decide) ?_
      refine lv_istore (lv' := [(6, .int (0 : Int32)), (5, .int x5_6), (3, .long x3_5), (0, .ref (Am 0)), (1, .int x1), (2, .int x2)]) hx hb dX12_voyages_41 hl (by decide) rfl (fun ls hl => ?_)
      exact lM_voyages_43 X _ _ _ _ _ _ _ _ _ hf _ _ _ Y (lv_sub hl [3, 5, 2, 1, 0] rfl)
    · have hf := ite_t hf c_4
      exact bM_voyages_24 X hf Y (lv_sub hl [0] rfl)
theorem cM_voyages {l : Launch} {Γ : Gm} {Am : Nat → Nat} {w : Nat → Int32} {kp : Nat → Int32} {tx : Nat → Int32} {td : Int32} {rf : Nat → Int32} {fa : Int64} {fb : Int64} {ap : Int32} {sp : Int32} {iw : Int32} {ig : Int32} {nu : Nat → Int32} {lst : Int32} {lwo : Int32} {hh : Int64} {rf_z : Nat → Int32} {lst_z : Int32} {lwo_z : Int32} {r0 : Int32} {x1 : Int32} {x2 : Int32} (h : M_voyages x1 x2 w rf lst lwo = some (r0, rf_z, lst_z, lwo_z)) : CI l Γ yX12_voyages (Cond.code yX12_voyages cX12_voyages 7 (some .int) :: GW) rmM_voyages [.ref (Am 0), .int x1, .int x2] (WM Γ Am w kp tx td rf fa fb ap sp iw ig nu lst lwo hh) (WM Γ Am w kp tx td rf_z fa fb ap sp iw ig nu lst_z lwo_z hh) r0 := ofBody (Qc := QcI Γ _ _ r0) (by decide) (Nat.le_of_ble_eq_true rfl) (fun p e s m below meth c ls _ X Y hl => bM_voyages_e X h Y hl)
theorem gfX12_23 (X : Cx Γ p s m args meth c RX12 cc nL ret w0) (Y : Wd Γ w0 s ws H locs) {v : Value} (q0 : Nat) {fs : List Value} (he : ws[q0]? = some (a, .inr (12, fs))) (hv : fs[6]? = some v) (hdg : decode cc pc = .ok (.getfield 23, 3)) (kk : W p l e R s m args below meth c H locs cells slots Q (F0 m (pc + 3) ls (v :: rest))) : W p l e R s m args below meth c H locs cells slots Q (F0 m pc ls (.ref a :: rest)) := x_get X Y iX12 rfl 6 (by decide) rfl kw141 q0 he hv hdg kk
theorem gfX12_178 (X : Cx Γ p s m args meth c RX12 cc nL ret w0) (Y : Wd Γ w0 s ws H locs) {v : Value} (q0 : Nat) {fs : List Value} (he : ws[q0]? = some (a, .inr (12, fs))) (hv : fs[5]? = some v) (hdg : decode cc pc = .ok (.getfield 178, 3)) (kk : W p l e R s m args below meth c H locs cells slots Q (F0 m (pc + 3) ls (v :: rest))) : W p l e R s m args below meth c H locs cells slots Q (F0 m pc ls (.ref a :: rest)) := x_get X Y iX12 rfl 5 (by decide) rfl kw140 q0 he hv hdg kk
def rmM_part : Room := { frames := 1, cells := 0, slots := 0, locals := 20 }
def M_part (x1 : Int32) (rf : Nat → Int32) (fa : Int64) (fb : Int64) : Option (Int64 × (Nat → Int32)) := if x1 = 0 then (some (fa, rf)) else (if x1 = (1 : Int32) then (some (fb, rf)) else (bd2 (M_bad rf) (fun (r_3 : Int32) (rf_4 : Nat → Int32) => some (r_3.toInt64, rf_4))))
set_option maxHeartbeats 4000000 in
set_option maxRecDepth 100000 in
theorem bM_part_e {Am : Nat → Nat} {w : Nat → Int32} {kp : Nat → Int32} {tx : Nat → Int32} {td : Int32} {rf : Nat → Int32} {fa : Int64} {fb : Int64} {ap : Int32} {sp : Int32} {iw : Int32} {ig : Int32} {nu : Nat → Int32} {lst : Int32} {lwo : Int32} {hh : Int64} {rf_z : Nat → Int32} {r0 : Int64} {x1 : Int32} (X : Cx Γ p s m args meth c RX12 cX12_part 2 (some .long) w0) (hf : M_part x1 rf fa fb = some (r0, rf_z)) (Y : Wd Γ w0 s (WM Γ Am w kp tx td rf fa fb ap sp iw ig nu lst lwo hh) H locs) (hl : lv_has ls 2 [(0, .ref (Am 0)), (1, .int x1)]) : W p l e rmM_part s m args below meth c H locs 0 0 (EL Γ below args s w0 (WM Γ Am w kp tx td rf_z fa fb ap sp iw ig nu lst lwo hh) r0) (F0 m 0 ls []) := by
  have hx := X.1
  have hb := X.2.1
  refine lv_iload_n hx hb dX12_part_0 rfl (lv_at hl 1 rfl) ?_
  refine lv_if_ne (tgt := 11) hx hb dX12_part_1 (by decide) (fun c_1 => ?_) (fun c_1 => ?_)
  · have hf := ite_f hf c_1
    refine lv_iload_n hx hb dX12_part_11 rfl (lv_at hl 1 rfl) ?_
    refine lv_iconst (v := (1 : Int32)) hx hb dX12_part_12 (by decide) ?_
    refine lv_icmp_ne (tgt := 23) hx hb dX12_part_13 (by decide) (fun c_2 => ?_) (fun c_2 => ?_)
    · have hf := ite_f hf c_2
      refine lv_aload_n hx hb dX12_part_23 rfl (lv_at hl 0 rfl) ?_
      obtain ⟨r_3, rf_4, ho_5, hf⟩ := bd2_some hf
      refine t_i Y (bkS Y) (r_V (As := []) (rest := []) X (c_preS X Y) (cM_bad ho_5) (cwX12_44 X (by decide)) (va_recv X.K Y.1 (q := (RX12, TX12, 15)) (q0 := 0) (ci := 12) rfl rfl) rfl hl.1 (Nat.le_of_ble_eq_true rfl) rfl dX12_part_24 ⟨Nat.zero_le _, Nat.zero_le _⟩) (fun H locs Y => ?_)
      refine lv_i2l (v := r_3.toInt64) hx hb dX12_part_27 rfl ?_
      obtain ⟨e90, e91⟩ := sj2 hf
      subst e90
      subst e91
      exact x_lret X Y dX12_part_28
    · have hf := ite_t hf c_2
      refine lv_aload_n hx hb dX12_part_16 rfl (lv_at hl 0 rfl) ?_
      refine gfX12_23 X Y (v := .long fb) 0 rfl rfl dX12_part_17 ?_
      refine lv_goto (tgt := 28) hx hb dX12_part_20 (by decide) ?_
      obtain ⟨e90, e91⟩ := sj2 hf
      subst e90
      subst e91
      exact x_lret X Y dX12_part_28
  · have hf := ite_t hf c_1
    refine lv_aload_n hx hb dX12_part_4 rfl (lv_at hl 0 rfl) ?_
    refine gfX12_178 X Y (v := .long fa) 0 rfl rfl dX12_part_5 ?_
    refine lv_goto (tgt := 28) hx hb dX12_part_8 (by decide) ?_
    obtain ⟨e90, e91⟩ := sj2 hf
    subst e90
    subst e91
    exact x_lret X Y dX12_part_28
theorem cM_part {l : Launch} {Γ : Gm} {Am : Nat → Nat} {w : Nat → Int32} {kp : Nat → Int32} {tx : Nat → Int32} {td : Int32} {rf : Nat → Int32} {fa : Int64} {fb : Int64} {ap : Int32} {sp : Int32} {iw : Int32} {ig : Int32} {nu : Nat → Int32} {lst : Int32} {lwo : Int32} {hh : Int64} {rf_z : Nat → Int32} {r0 : Int64} {x1 : Int32} (h : M_part x1 rf fa fb = some (r0, rf_z)) : CL l Γ yX12_part (Cond.code yX12_part cX12_part 2 (some .long) :: GW) rmM_part [.ref (Am 0), .int x1] (WM Γ Am w kp tx td rf fa fb ap sp iw ig nu lst lwo hh) (WM Γ Am w kp tx td rf_z fa fb ap sp iw ig nu lst lwo hh) r0 := ofBody (Qc := QcL Γ _ _ r0) (by decide) (Nat.le_of_ble_eq_true rfl) (fun p e s m below meth c ls _ X Y hl => bM_part_e X h Y hl)
theorem gfX12_13 (X : Cx Γ p s m args meth c RX12 cc nL ret w0) (Y : Wd Γ w0 s ws H locs) {v : Value} (q0 : Nat) {fs : List Value} (he : ws[q0]? = some (a, .inr (12, fs))) (hv : fs[1]? = some v) (hdg : decode cc pc = .ok (.getfield 13, 3)) (kk : W p l e R s m args below meth c H locs cells slots Q (F0 m (pc + 3) ls (v :: rest))) : W p l e R s m args below meth c H locs cells slots Q (F0 m pc ls (.ref a :: rest)) := x_get X Y iX12 rfl 1 (by decide) rfl kw187 q0 he hv hdg kk
def rmM_image : Room := { frames := 1, cells := 0, slots := 0, locals := 25 }
def M_image (x1 : Int32) (w : Nat → Int32) (kp : Nat → Int32) (rf : Nat → Int32) : Option (Int32 × (Nat → Int32) × (Nat → Int32) × (Nat → Int32)) := bd1 (M_in x1.toInt64 (0 : Int64) (1 : Int64)) (fun (r_1 : Int32) => if r_1 = 0 then (bd2 (M_bad rf) (fun (r_7 : Int32) (rf_8 : Nat → Int32) => some (r_7, w, kp, rf_8))) else (bd1 (M_copy (0 : Int32) ((80 : Int32) * ((1 : Int32) + x1)) w) (fun (w_3 : Nat → Int32) => ck (inb x1 2) (bnd (upd kp x1.toNatClampNeg (vp_nar .boolean (1 : Int32))) (fun (kp_4 : Nat → Int32) => some ((1 : Int32), w_3, kp_4, rf))))))
set_option maxHeartbeats 4000000 in
set_option maxRecDepth 100000 in
theorem bM_image_e {Am : Nat → Nat} {w : Nat → Int32} {kp : Nat → Int32} {tx : Nat → Int32} {td : Int32} {rf : Nat → Int32} {fa : Int64} {fb : Int64} {ap : Int32} {sp : Int32} {iw : Int32} {ig : Int32} {nu : Nat → Int32} {lst : Int32} {lwo : Int32} {hh : Int64} {w_z : Nat → Int32} {kp_z : Nat → Int32} {rf_z : Nat → Int32} {r0 : Int32} {x1 : Int32} (X : Cx Γ p s m args meth c RX12 cX12_image 2 (some .int) w0) (hf : M_image x1 w kp rf = some (r0, w_z, kp_z, rf_z)) (Y : Wd Γ w0 s (WM Γ Am w kp tx td rf fa fb ap sp iw ig nu lst lwo hh) H locs) (hl : lv_has ls 2 [(0, .ref (Am 0)), (1, .int x1)]) : W p l e rmM_image s m args below meth c H locs 0 0 (EI Γ below args s w0 (WM Γ Am w_z kp_z tx td rf_z fa fb ap sp iw ig nu lst lwo hh) r0) (F0 m 0 ls []) := by
  have hx := X.1
  have hb := X.2.1
  refine lv_iload_n hx hb dX12_image_0 rfl (lv_at hl 1 rfl) ?_
  refine lv_i2l (v := x1.toInt64) hx hb dX12_image_1 rfl ?_
  refine lv_lconst (v := (0 : Int64)) hx hb dX12_image_2 (by decide) ?_
  refine lv_lconst (v := (1 : Int64)) hx hb dX12_image_3 (by decide) ?_
  obtain ⟨r_1, ho_10, hf⟩ := bd1_some hf
  refine t_i Y (bk0 Y) (r_S (As := [.long x1.toInt64, .long (0 : Int64), .long (1 : Int64)]) (rest := []) X (c_pre0 X Y) (cM_in ho_10) (cwX12_34 X (by decide)) rfl hl.1 (Nat.le_of_ble_eq_true rfl) rfl dX12_image_4 ⟨Nat.zero_le _, Nat.zero_le _⟩) (fun H locs Y => ?_)
  refine lv_if_ne (tgt := 15) hx hb dX12_image_7 (by decide) (fun c_2 => ?_) (fun c_2 => ?_)
  · have hf := ite_f hf c_2
    refine lv_aload_n hx hb dX12_image_15 rfl (lv_at hl 0 rfl) ?_
    refine lv_iconst (v := (0 : Int32)) hx hb dX12_image_16 (by decide) ?_
    refine lv_bipush (v := (80 : Int32)) hx hb dX12_image_17 (by decide) ?_
    refine lv_iconst (v := (1 : Int32)) hx hb dX12_image_19 (by decide) ?_
    refine lv_iload_n hx hb dX12_image_20 rfl (lv_at hl 1 rfl) ?_
    refine lv_iadd hx hb dX12_image_21 ?_
    refine lv_imul hx hb dX12_image_22 ?_
    obtain ⟨w_3, ho_6, hf⟩ := bd1_some hf
    refine t_v Y (bkS Y) (r_V (As := [.int (0 : Int32), .int ((80 : Int32) * ((1 : Int32) + x1))]) (rest := []) X (c_preS X Y) (cM_copy ho_6) (cwX12_135 X (by decide)) (va_recv X.K Y.1 (q := (RX12, TX12, 15)) (q0 := 0) (ci := 12) rfl rfl) rfl hl.1 (Nat.le_of_ble_eq_true rfl) rfl dX12_image_23 ⟨Nat.zero_le _, Nat.zero_le _⟩) (fun H locs Y => ?_)
    refine lv_aload_n hx hb dX12_image_26 rfl (lv_at hl 0 rfl) ?_
    refine gfX12_13 X Y (v := .ref (Am 2)) 0 rfl rfl dX12_image_27 ?_
    refine lv_iload_n hx hb dX12_image_30 rfl (lv_at hl 1 rfl) ?_
    refine lv_iconst (v := (1 : Int32)) hx hb dX12_image_31 (by decide) ?_
    obtain ⟨hi_5, hf⟩ := ck_some hf
    obtain ⟨kp_4, e_kp_4⟩ : ∃ z : Nat → Int32, z = (upd kp x1.toNatClampNeg (vp_nar .boolean (1 : Int32))) := ⟨_, rfl⟩
    have hf := bnd_eq hf e_kp_4
    refine x_zast X Y 2 rfl rfl hi_5 (ws' := (WM Γ Am w_3 kp_4 tx td rf fa fb ap sp iw ig nu lst lwo hh)) (by subst e_kp_4; rfl) dX12_image_32 (fun H locs Y => ?_)
    refine lv_iconst (v := (1 : Int32)) hx hb dX12_image_33 (by decide) ?_
    obtain ⟨e90, e91, e92, e93⟩ := sj4 hf
    subst e90
    subst e91
    subst e92
    subst e93
    exact x_iret X Y dX12_image_34
  · have hf := ite_t hf c_2
    refine lv_aload_n hx hb dX12_image_10 rfl (lv_at hl 0 rfl) ?_
    obtain ⟨r_7, rf_8, ho_9, hf⟩ := bd2_some hf
    refine t_i Y (bkS Y) (r_V (As := []) (rest := []) X (c_preS X Y) (cM_bad ho_9) (cwX12_44 X (by decide)) (va_recv X.K Y.1 (q := (RX12, TX12, 15)) (q0 := 0) (ci := 12) rfl rfl) rfl hl.1 (Nat.le_of_ble_eq_true rfl) rfl dX12_image_11 ⟨Nat.zero_le _, Nat.zero_le _⟩) (fun H locs Y => ?_)
    obtain ⟨e90, e91, e92, e93⟩ := sj4 hf
    subst e90
    subst e91
    subst e92
    subst e93
    exact x_iret X Y dX12_image_14
theorem cM_image {l : Launch} {Γ : Gm} {Am : Nat → Nat} {w : Nat → Int32} {kp : Nat → Int32} {tx : Nat → Int32} {td : Int32} {rf : Nat → Int32} {fa : Int64} {fb : Int64} {ap : Int32} {sp : Int32} {iw : Int32} {ig : Int32} {nu : Nat → Int32} {lst : Int32} {lwo : Int32} {hh : Int64} {w_z : Nat → Int32} {kp_z : Nat → Int32} {rf_z : Nat → Int32} {r0 : Int32} {x1 : Int32} (h : M_image x1 w kp rf = some (r0, w_z, kp_z, rf_z)) : CI l Γ yX12_image (Cond.code yX12_image cX12_image 2 (some .int) :: GW) rmM_image [.ref (Am 0), .int x1] (WM Γ Am w kp tx td rf fa fb ap sp iw ig nu lst lwo hh) (WM Γ Am w_z kp_z tx td rf_z fa fb ap sp iw ig nu lst lwo hh) r0 := ofBody (Qc := QcI Γ _ _ r0) (by decide) (Nat.le_of_ble_eq_true rfl) (fun p e s m below meth c ls _ X Y hl => bM_image_e X h Y hl)
def rmM_from : Room := { frames := 1, cells := 0, slots := 0, locals := 25 }
def M_from (x1 : Int32) (w : Nat → Int32) (kp : Nat → Int32) (rf : Nat → Int32) : Option (Int32 × (Nat → Int32) × (Nat → Int32)) := bd1 (M_in x1.toInt64 (0 : Int64) (1 : Int64)) (fun (r_1 : Int32) => if r_1 = 0 then (bd2 (M_bad rf) (fun (r_10 : Int32) (rf_11 : Nat → Int32) => some (r_10, w, rf_11))) else (ck (inb x1 2) (if (kp x1.toNatClampNeg) = 0 then (bd2 (M_no rf) (fun (r_7 : Int32) (rf_8 : Nat → Int32) => some (r_7, w, rf_8))) else (bd1 (M_copy ((80 : Int32) * ((1 : Int32) + x1)) (0 : Int32) w) (fun (w_5 : Nat → Int32) => some ((1 : Int32), w_5, rf))))))
set_option maxHeartbeats 4000000 in
set_option maxRecDepth 100000 in
theorem bM_from_e {Am : Nat → Nat} {w : Nat → Int32} {kp : Nat → Int32} {tx : Nat → Int32} {td : Int32} {rf : Nat → Int32} {fa : Int64} {fb : Int64} {ap : Int32} {sp : Int32} {iw : Int32} {ig : Int32} {nu : Nat → Int32} {lst : Int32} {lwo : Int32} {hh : Int64} {w_z : Nat → Int32} {rf_z : Nat → Int32} {r0 : Int32} {x1 : Int32} (X : Cx Γ p s m args meth c RX12 cX12_from 2 (some .int) w0) (hf : M_from x1 w kp rf = some (r0, w_z, rf_z)) (Y : Wd Γ w0 s (WM Γ Am w kp tx td rf fa fb ap sp iw ig nu lst lwo hh) H locs) (hl : lv_has ls 2 [(0, .ref (Am 0)), (1, .int x1)]) : W p l e rmM_from s m args below meth c H locs 0 0 (EI Γ below args s w0 (WM Γ Am w_z kp tx td rf_z fa fb ap sp iw ig nu lst lwo hh) r0) (F0 m 0 ls []) := by
  have hx := X.1
  have hb := X.2.1
  refine lv_iload_n hx hb dX12_from_0 rfl (lv_at hl 1 rfl) ?_
  refine lv_i2l (v := x1.toInt64) hx hb dX12_from_1 rfl ?_
  refine lv_lconst (v := (0 : Int64)) hx hb dX12_from_2 (by decide) ?_
  refine lv_lconst (v := (1 : Int64)) hx hb dX12_from_3 (by decide) ?_
  obtain ⟨r_1, ho_13, hf⟩ := bd1_some hf
  refine t_i Y (bk0 Y) (r_S (As := [.long x1.toInt64, .long (0 : Int64), .long (1 : Int64)]) (rest := []) X (c_pre0 X Y) (cM_in ho_13) (cwX12_34 X (by decide)) rfl hl.1 (Nat.le_of_ble_eq_true rfl) rfl dX12_from_4 ⟨Nat.zero_le _, Nat.zero_le _⟩) (fun H locs Y => ?_)
  refine lv_if_ne (tgt := 15) hx hb dX12_from_7 (by decide) (fun c_2 => ?_) (fun c_2 => ?_)
  · have hf := ite_f hf c_2
    refine lv_aload_n hx hb dX12_from_15 rfl (lv_at hl 0 rfl) ?_
    refine gfX12_13 X Y (v := .ref (Am 2)) 0 rfl rfl dX12_from_16 ?_
    refine lv_iload_n hx hb dX12_from_19 rfl (lv_at hl 1 rfl) ?_
    obtain ⟨hi_3, hf⟩ := ck_some hf
    refine x_zald X Y 2 rfl rfl hi_3 dX12_from_20 ?_
    refine lv_if_ne (tgt := 29) hx hb dX12_from_21 (by decide) (fun c_4 => ?_) (fun c_4 => ?_)
    · have hf := ite_f hf c_4
      refine lv_aload_n hx hb dX12_from_29 rfl (lv_at hl 0 rfl) ?_
      refine lv_bipush (v := (80 : Int32)) hx hb dX12_from_30 (by decide) ?_
      refine lv_iconst (v := (1 : Int32)) hx hb dX12_from_32 (by decide) ?_
      refine lv_iload_n hx hb dX12_from_33 rfl (lv_at hl 1 rfl) ?_
      refine lv_iadd hx hb dX12_from_34 ?_
      refine lv_imul hx hb dX12_from_35 ?_
      refine lv_iconst (v := (0 : Int32)) hx hb dX12_from_36 (by decide) ?_
      obtain ⟨w_5, ho_6, hf⟩ := bd1_some hf
      refine t_v Y (bkS Y) (r_V (As := [.int ((80 : Int32) * ((1 : Int32) + x1)), .int (0 : Int32)]) (rest := []) X (c_preS X Y) (cM_copy ho_6) (cwX12_135 X (by decide)) (va_recv X.K Y.1 (q := (RX12, TX12, 15)) (q0 := 0) (ci := 12) rfl rfl) rfl hl.1 (Nat.le_of_ble_eq_true rfl) rfl dX12_from_37 ⟨Nat.zero_le _, Nat.zero_le _⟩) (fun H locs Y => ?_)
      refine lv_iconst (v := (1 : Int32)) hx hb dX12_from_40 (by decide) ?_
      obtain ⟨e90, e91, e92⟩ := sj3 hf
      subst e90
      subst e91
      subst e92
      exact x_iret X Y dX12_from_41
    · have hf := ite_t hf c_4
      refine lv_aload_n hx hb dX12_from_24 rfl (lv_at hl 0 rfl) ?_
      obtain ⟨r_7, rf_8, ho_9, hf⟩ := bd2_some hf
      refine t_i Y (bkS Y) (r_V (As := []) (rest := []) X (c_preS X Y) (cM_no ho_9) (cwX12_152 X (by decide)) (va_recv X.K Y.1 (q := (RX12, TX12, 15)) (q0 := 0) (ci := 12) rfl rfl) rfl hl.1 (Nat.le_of_ble_eq_true rfl) rfl dX12_from_25 ⟨Nat.zero_le _, Nat.zero_le _⟩) (fun H locs Y => ?_)
      obtain ⟨e90, e91, e92⟩ := sj3 hf
      subst e90
      subst e91
      subst e92
      exact x_iret X Y dX12_from_28
  · have hf := ite_t hf c_2
    refine lv_aload_n hx hb dX12_from_10 rfl (lv_at hl 0 rfl) ?_
    obtain ⟨r_10, rf_11, ho_12, hf⟩ := bd2_some hf
    refine t_i Y (bkS Y) (r_V (As := []) (rest := []) X (c_preS X Y) (cM_bad ho_12) (cwX12_44 X (by decide)) (va_recv X.K Y.1 (q := (RX12, TX12, 15)) (q0 := 0) (ci := 12) rfl rfl) rfl hl.1 (Nat.le_of_ble_eq_true rfl) rfl dX12_from_11 ⟨Nat.zero_le _, Nat.zero_le _⟩) (fun H locs Y => ?_)
    obtain ⟨e90, e91, e92⟩ := sj3 hf
    subst e90
    subst e91
    subst e92
    exact x_iret X Y dX12_from_14
theorem cM_from {l : Launch} {Γ : Gm} {Am : Nat → Nat} {w : Nat → Int32} {kp : Nat → Int32} {tx : Nat → Int32} {td : Int32} {rf : Nat → Int32} {fa : Int64} {fb : Int64} {ap : Int32} {sp : Int32} {iw : Int32} {ig : Int32} {nu : Nat → Int32} {lst : Int32} {lwo : Int32} {hh : Int64} {w_z : Nat → Int32} {rf_z : Nat → Int32} {r0 : Int32} {x1 : Int32} (h : M_from x1 w kp rf = some (r0, w_z, rf_z)) : CI l Γ yX12_from (Cond.code yX12_from cX12_from 2 (some .int) :: GW) rmM_from [.ref (Am 0), .int x1] (WM Γ Am w kp tx td rf fa fb ap sp iw ig nu lst lwo hh) (WM Γ Am w_z kp tx td rf_z fa fb ap sp iw ig nu lst lwo hh) r0 := ofBody (Qc := QcI Γ _ _ r0) (by decide) (Nat.le_of_ble_eq_true rfl) (fun p e s m below meth c ls _ X Y hl => bM_from_e X h Y hl)
def rmM_status : Room := { frames := 1, cells := 0, slots := 0, locals := 25 }
def M_status (x1 : Int32) (rf : Nat → Int32) : Option (Int32 × (Nat → Int32)) := bd1 (M_in x1.toInt64 (0 : Int64) (2 : Int64)) (fun (r_1 : Int32) => if r_1 = 0 then (bd2 (M_badAs (-1 : Int32) rf) (fun (r_3 : Int32) (rf_4 : Nat → Int32) => some (r_3, rf_4))) else (ck (inb x1 3) (some ((rf x1.toNatClampNeg), rf))))
set_option maxHeartbeats 4000000 in
set_option maxRecDepth 100000 in
theorem bM_status_e {Am : Nat → Nat} {w : Nat → Int32} {kp : Nat → Int32} {tx : Nat → Int32} {td : Int32} {rf : Nat → Int32} {fa : Int64} {fb : Int64} {ap : Int32} {sp : Int32} {iw : Int32} {ig : Int32} {nu : Nat → Int32} {lst : Int32} {lwo : Int32} {hh : Int64} {rf_z : Nat → Int32} {r0 : Int32} {x1 : Int32} (X : Cx Γ p s m args meth c RX12 cX12_status 2 (some .int) w0) (hf : M_status x1 rf = some (r0, rf_z)) (Y : Wd Γ w0 s (WM Γ Am w kp tx td rf fa fb ap sp iw ig nu lst lwo hh) H locs) (hl : lv_has ls 2 [(0, .ref (Am 0)), (1, .int x1)]) : W p l e rmM_status s m args below meth c H locs 0 0 (EI Γ below args s w0 (WM Γ Am w kp tx td rf_z fa fb ap sp iw ig nu lst lwo hh) r0) (F0 m 0 ls []) := by
  have hx := X.1
  have hb := X.2.1
  refine lv_iload_n hx hb dX12_status_0 rfl (lv_at hl 1 rfl) ?_
  refine lv_i2l (v := x1.toInt64) hx hb dX12_status_1 rfl ?_
  refine lv_lconst (v := (0 : Int64)) hx hb dX12_status_2 (by decide) ?_
  refine lv_ldc2 (v := (2 : Int64)) hx hb X.2.2.2.1 (X.2.2.2.2.1 _ kw18) dX12_status_3 ?_
  obtain ⟨r_1, ho_7, hf⟩ := bd1_some hf
  refine t_i Y (bk0 Y) (r_S (As := [.long x1.toInt64, .long (0 : Int64), .long (2 : Int64)]) (rest := []) X (c_pre0 X Y) (cM_in ho_7) (cwX12_34 X (by decide)) rfl hl.1 (Nat.le_of_ble_eq_true rfl) rfl dX12_status_6 ⟨Nat.zero_le _, Nat.zero_le _⟩) (fun H locs Y => ?_)
  refine lv_if_eq (tgt := 21) hx hb dX12_status_9 (by decide) (fun c_2 => ?_) (fun c_2 => ?_)
  · have hf := ite_t hf c_2
    refine lv_aload_n hx hb dX12_status_21 rfl (lv_at hl 0 rfl) ?_
    refine lv_iconst (v := (-1 : Int32)) hx hb dX12_status_22 (by decide) ?_
    obtain ⟨r_3, rf_4, ho_5, hf⟩ := bd2_some hf
    refine t_i Y (bkS Y) (r_V (As := [.int (-1 : Int32)]) (rest := []) X (c_preS X Y) (cM_badAs ho_5) (cwX12_205 X (by decide)) (va_recv X.K Y.1 (q := (RX12, TX12, 15)) (q0 := 0) (ci := 12) rfl rfl) rfl hl.1 (Nat.le_of_ble_eq_true rfl) rfl dX12_status_23 ⟨Nat.zero_le _, Nat.zero_le _⟩) (fun H locs Y => ?_)
    obtain ⟨e90, e91⟩ := sj2 hf
    subst e90
    subst e91
    exact x_iret X Y dX12_status_26
  · have hf := ite_f hf c_2
    refine lv_aload_n hx hb dX12_status_12 rfl (lv_at hl 0 rfl) ?_
    refine gfX12_20 X Y (v := .ref (Am 4)) 0 rfl rfl dX12_status_13 ?_
    refine lv_iload_n hx hb dX12_status_16 rfl (lv_at hl 1 rfl) ?_
    obtain ⟨hi_6, hf⟩ := ck_some hf
    refine x_iald X Y 4 rfl rfl hi_6 dX12_status_17 ?_
    refine lv_goto (tgt := 26) hx hb dX12_status_18 (by decide) ?_
    obtain ⟨e90, e91⟩ := sj2 hf
    subst e90
    subst e91
    exact x_iret X Y dX12_status_26
theorem cM_status {l : Launch} {Γ : Gm} {Am : Nat → Nat} {w : Nat → Int32} {kp : Nat → Int32} {tx : Nat → Int32} {td : Int32} {rf : Nat → Int32} {fa : Int64} {fb : Int64} {ap : Int32} {sp : Int32} {iw : Int32} {ig : Int32} {nu : Nat → Int32} {lst : Int32} {lwo : Int32} {hh : Int64} {rf_z : Nat → Int32} {r0 : Int32} {x1 : Int32} (h : M_status x1 rf = some (r0, rf_z)) : CI l Γ yX12_status (Cond.code yX12_status cX12_status 2 (some .int) :: GW) rmM_status [.ref (Am 0), .int x1] (WM Γ Am w kp tx td rf fa fb ap sp iw ig nu lst lwo hh) (WM Γ Am w kp tx td rf_z fa fb ap sp iw ig nu lst lwo hh) r0 := ofBody (Qc := QcI Γ _ _ r0) (by decide) (Nat.le_of_ble_eq_true rfl) (fun p e s m below meth c ls _ X Y hl => bM_status_e X h Y hl)
def rmM_countOf : Room := { frames := 1, cells := 0, slots := 0, locals := 22 }
def M_countOf (x1 : Int32) (w : Nat → Int32) (td : Int32) : Option (Int32) := if x1 = (0 : Int32) then (some (w 0)) else (if x1 = (1 : Int32) then (bd1 (M_ones (w 5)) (fun (r_3 : Int32) => some r_3)) else (if x1 = (2 : Int32) then (some (w 1)) else (if x1 = (3 : Int32) then (some (w 2)) else (if x1 = (4 : Int32) then (some (w 3)) else (if x1 = (5 : Int32) then (some (w 4)) else (some td))))))
set_option maxHeartbeats 4000000 in
set_option maxRecDepth 100000 in
theorem bM_countOf_e {Am : Nat → Nat} {w : Nat → Int32} {kp : Nat → Int32} {tx : Nat → Int32} {td : Int32} {rf : Nat → Int32} {fa : Int64} {fb : Int64} {ap : Int32} {sp : Int32} {iw : Int32} {ig : Int32} {nu : Nat → Int32} {lst : Int32} {lwo : Int32} {hh : Int64} {r0 : Int32} {x1 : Int32} (X : Cx Γ p s m args meth c RX12 cX12_countOf 2 (some .int) w0) (hf : M_countOf x1 w td = some r0) (Y : Wd Γ w0 s (WM Γ Am w kp tx td rf fa fb ap sp iw ig nu lst lwo hh) H locs) (hl : lv_has ls 2 [(0, .ref (Am 0)), (1, .int x1)]) : W p l e rmM_countOf s m args below meth c H locs 0 0 (EI Γ below args s w0 (WM Γ Am w kp tx td rf fa fb ap sp iw ig nu lst lwo hh) r0) (F0 m 0 ls []) := by
  have hx := X.1
  have hb := X.2.1
  refine lv_iload_n hx hb dX12_countOf_0 rfl (lv_at hl 1 rfl) ?_
  by_cases c_1 : x1 = (0 : Int32)
  · have hf := ite_t hf c_1
    have et : (x1).toInt = 0 := by rw [c_1]; rfl
    refine lv_tableIn (tgt := 40) (off := 39) hx hb dX12_countOf_1 (by rw [et]; decide) (by rw [et]; decide) (by rw [et]; rfl) (by decide) ?_
    refine lv_aload_n hx hb dX12_countOf_40 rfl (lv_at hl 0 rfl) ?_
    refine gfX12_7 X Y (v := .ref (Am 1)) 0 rfl rfl dX12_countOf_41 ?_
    refine lv_iconst (v := (0 : Int32)) hx hb dX12_countOf_44 (by decide) ?_
    refine x_iald X Y 1 rfl (j := 0) rfl rfl dX12_countOf_45 ?_
    have e90 := Option.some.inj hf
    subst e90
    exact x_iret X Y dX12_countOf_46
  have hf := ite_f hf c_1
  by_cases c_2 : x1 = (1 : Int32)
  · have hf := ite_t hf c_2
    have et : (x1).toInt = 1 := by rw [c_2]; rfl
    refine lv_tableIn (tgt := 47) (off := 46) hx hb dX12_countOf_1 (by rw [et]; decide) (by rw [et]; decide) (by rw [et]; rfl) (by decide) ?_
    refine lv_aload_n hx hb dX12_countOf_47 rfl (lv_at hl 0 rfl) ?_
    refine gfX12_7 X Y (v := .ref (Am 1)) 0 rfl rfl dX12_countOf_48 ?_
    refine lv_iconst (v := (5 : Int32)) hx hb dX12_countOf_51 (by decide) ?_
    refine x_iald X Y 1 rfl (j := 5) rfl rfl dX12_countOf_52 ?_
    obtain ⟨r_3, ho_4, hf⟩ := bd1_some hf
    refine t_i Y (bk0 Y) (r_S (As := [.int (w 5)]) (rest := []) X (c_pre0 X Y) (cM_ones ho_4) (cwX12_155 X (by decide)) rfl hl.1 (Nat.le_of_ble_eq_true rfl) rfl dX12_countOf_53 ⟨Nat.zero_le _, Nat.zero_le _⟩) (fun H locs Y => ?_)
    have e90 := Option.some.inj hf
    subst e90
    exact x_iret X Y dX12_countOf_56
  have hf := ite_f hf c_2
  by_cases c_5 : x1 = (2 : Int32)
  · have hf := ite_t hf c_5
    have et : (x1).toInt = 2 := by rw [c_5]; rfl
    refine lv_tableIn (tgt := 57) (off := 56) hx hb dX12_countOf_1 (by rw [et]; decide) (by rw [et]; decide) (by rw [et]; rfl) (by decide) ?_
    refine lv_aload_n hx hb dX12_countOf_57 rfl (lv_at hl 0 rfl) ?_
    refine gfX12_7 X Y (v := .ref (Am 1)) 0 rfl rfl dX12_countOf_58 ?_
    refine lv_iconst (v := (1 : Int32)) hx hb dX12_countOf_61 (by decide) ?_
    refine x_iald X Y 1 rfl (j := 1) rfl rfl dX12_countOf_62 ?_
    have e90 := Option.some.inj hf
    subst e90
    exact x_iret X Y dX12_countOf_63
  have hf := ite_f hf c_5
  by_cases c_6 : x1 = (3 : Int32)
  · have hf := ite_t hf c_6
    have et : (x1).toInt = 3 := by rw [c_6]; rfl
    refine lv_tableIn (tgt := 64) (off := 63) hx hb dX12_countOf_1 (by rw [et]; decide) (by rw [et]; decide) (by rw [et]; rfl) (by decide) ?_
    refine lv_aload_n hx hb dX12_countOf_64 rfl (lv_at hl 0 rfl) ?_
    refine gfX12_7 X Y (v := .ref (Am 1)) 0 rfl rfl dX12_countOf_65 ?_
    refine lv_iconst (v := (2 : Int32)) hx hb dX12_countOf_68 (by decide) ?_
    refine x_iald X Y 1 rfl (j := 2) rfl rfl dX12_countOf_69 ?_
    have e90 := Option.some.inj hf
    subst e90
    exact x_iret X Y dX12_countOf_70
  have hf := ite_f hf c_6
  by_cases c_7 : x1 = (4 : Int32)
  · have hf := ite_t hf c_7
    have et : (x1).toInt = 4 := by rw [c_7]; rfl
    refine lv_tableIn (tgt := 71) (off := 70) hx hb dX12_countOf_1 (by rw [et]; decide) (by rw [et]; decide) (by rw [et]; rfl) (by decide) ?_
    refine lv_aload_n hx hb dX12_countOf_71 rfl (lv_at hl 0 rfl) ?_
    refine gfX12_7 X Y (v := .ref (Am 1)) 0 rfl rfl dX12_countOf_72 ?_
    refine lv_iconst (v := (3 : Int32)) hx hb dX12_countOf_75 (by decide) ?_
    refine x_iald X Y 1 rfl (j := 3) rfl rfl dX12_countOf_76 ?_
    have e90 := Option.some.inj hf
    subst e90
    exact x_iret X Y dX12_countOf_77
  have hf := ite_f hf c_7
  by_cases c_8 : x1 = (5 : Int32)
  · have hf := ite_t hf c_8
    have et : (x1).toInt = 5 := by rw [c_8]; rfl
    refine lv_tableIn (tgt := 78) (off := 77) hx hb dX12_countOf_1 (by rw [et]; decide) (by rw [et]; decide) (by rw [et]; rfl) (by decide) ?_
    refine lv_aload_n hx hb dX12_countOf_78 rfl (lv_at hl 0 rfl) ?_
    refine gfX12_7 X Y (v := .ref (Am 1)) 0 rfl rfl dX12_countOf_79 ?_
    refine lv_iconst (v := (4 : Int32)) hx hb dX12_countOf_82 (by decide) ?_
    refine x_iald X Y 1 rfl (j := 4) rfl rfl dX12_countOf_83 ?_
    have e90 := Option.some.inj hf
    subst e90
    exact x_iret X Y dX12_countOf_84
  have hf := ite_f hf c_8
  have hout : (x1).toInt < 0 ∨ 5 < (x1).toInt := by
    have qc_1 := lv_neT c_1 (show ((0 : Int32)).toInt = 0 by rfl)
    have qc_2 := lv_neT c_2 (show ((1 : Int32)).toInt = 1 by rfl)
    have qc_5 := lv_neT c_5 (show ((2 : Int32)).toInt = 2 by rfl)
    have qc_6 := lv_neT c_6 (show ((3 : Int32)).toInt = 3 by rfl)
    have qc_7 := lv_neT c_7 (show ((4 : Int32)).toInt = 4 by rfl)
    have qc_8 := lv_neT c_8 (show ((5 : Int32)).toInt = 5 by rfl)
    omega
  refine lv_tableOut (tgt := 85) hx hb dX12_countOf_1 hout (by decide) ?_
  refine lv_aload_n hx hb dX12_countOf_85 rfl (lv_at hl 0 rfl) ?_
  refine gfX12_80 X Y (v := .int td) 0 rfl rfl dX12_countOf_86 ?_
  have e90 := Option.some.inj hf
  subst e90
  exact x_iret X Y dX12_countOf_89
theorem cM_countOf {l : Launch} {Γ : Gm} {Am : Nat → Nat} {w : Nat → Int32} {kp : Nat → Int32} {tx : Nat → Int32} {td : Int32} {rf : Nat → Int32} {fa : Int64} {fb : Int64} {ap : Int32} {sp : Int32} {iw : Int32} {ig : Int32} {nu : Nat → Int32} {lst : Int32} {lwo : Int32} {hh : Int64} {r0 : Int32} {x1 : Int32} (h : M_countOf x1 w td = some r0) : CI l Γ yX12_countOf (Cond.code yX12_countOf cX12_countOf 2 (some .int) :: GW) rmM_countOf [.ref (Am 0), .int x1] (WM Γ Am w kp tx td rf fa fb ap sp iw ig nu lst lwo hh) (WM Γ Am w kp tx td rf fa fb ap sp iw ig nu lst lwo hh) r0 := ofBody (Qc := QcI Γ _ _ r0) (by decide) (Nat.le_of_ble_eq_true rfl) (fun p e s m below meth c ls _ X Y hl => bM_countOf_e X h Y hl)
theorem dmX12_countOfV : yX12_countOf.cls = RX12 ∧ yX12_countOf.cls ≠ "java/lang/invoke/MethodHandle" ∧ yX12_countOf.cls ≠ "java/lang/invoke/VarHandle" ∧ (parseMethodDescriptor yX12_countOf.desc).map (fun d => d.parameters.length) = some 1 := by decide +kernel
theorem cwX12_238 (X : Cx Γ p s m args meth c RX12 cc nL ret w0) (hR : rmM_countOf.frames + 1 ≤ R.frames ∧ 8 + (2 + 11) + rmM_countOf.locals ≤ R.locals) : CallW R s args RX12 RX12 238 yX12_countOf cX12_countOf 2 (some .int) (Cond.code yX12_countOf cX12_countOf 2 (some .int) :: GW) rmM_countOf 0 0 1 := cw_V X kw189 kw190 kw191 kw4 kw192 dmX12_countOfV rfl rfl hR
def rmM_count : Room := { frames := 2, cells := 0, slots := 0, locals := 43 }
def M_count (x1 : Int32) (w : Nat → Int32) (td : Int32) (rf : Nat → Int32) : Option (Int32 × (Nat → Int32)) := bd1 (M_in x1.toInt64 (0 : Int64) (6 : Int64)) (fun (r_1 : Int32) => if r_1 = 0 then (bd2 (M_bad rf) (fun (r_3 : Int32) (rf_4 : Nat → Int32) => some (r_3, rf_4))) else (bd1 (M_countOf x1 w td) (fun (r_6 : Int32) => some (r_6, rf))))
set_option maxHeartbeats 4000000 in
set_option maxRecDepth 100000 in
theorem bM_count_e {Am : Nat → Nat} {w : Nat → Int32} {kp : Nat → Int32} {tx : Nat → Int32} {td : Int32} {rf : Nat → Int32} {fa : Int64} {fb : Int64} {ap : Int32} {sp : Int32} {iw : Int32} {ig : Int32} {nu : Nat → Int32} {lst : Int32} {lwo : Int32} {hh : Int64} {rf_z : Nat → Int32} {r0 : Int32} {x1 : Int32} (X : Cx Γ p s m args meth c RX12 cX12_count 2 (some .int) w0) (hf : M_count x1 w td rf = some (r0, rf_z)) (Y : Wd Γ w0 s (WM Γ Am w kp tx td rf fa fb ap sp iw ig nu lst lwo hh) H locs) (hl : lv_has ls 2 [(0, .ref (Am 0)), (1, .int x1)]) : W p l e rmM_count s m args below meth c H locs 0 0 (EI Γ below args s w0 (WM Γ Am w kp tx td rf_z fa fb ap sp iw ig nu lst lwo hh) r0) (F0 m 0 ls []) := by
  have hx := X.1
  have hb := X.2.1
  refine lv_iload_n hx hb dX12_count_0 rfl (lv_at hl 1 rfl) ?_
  refine lv_i2l (v := x1.toInt64) hx hb dX12_count_1 rfl ?_
  refine lv_lconst (v := (0 : Int64)) hx hb dX12_count_2 (by decide) ?_
  refine lv_ldc2 (v := (6 : Int64)) hx hb X.2.2.2.1 (X.2.2.2.2.1 _ kw188) dX12_count_3 ?_
  obtain ⟨r_1, ho_8, hf⟩ := bd1_some hf
  refine t_i Y (bk0 Y) (r_S (As := [.long x1.toInt64, .long (0 : Int64), .long (6 : Int64)]) (rest := []) X (c_pre0 X Y) (cM_in ho_8) (cwX12_34 X (by decide)) rfl hl.1 (Nat.le_of_ble_eq_true rfl) rfl dX12_count_6 ⟨Nat.zero_le _, Nat.zero_le _⟩) (fun H locs Y => ?_)
  refine lv_if_eq (tgt := 20) hx hb dX12_count_9 (by decide) (fun c_2 => ?_) (fun c_2 => ?_)
  · have hf := ite_t hf c_2
    refine lv_aload_n hx hb dX12_count_20 rfl (lv_at hl 0 rfl) ?_
    obtain ⟨r_3, rf_4, ho_5, hf⟩ := bd2_some hf
    refine t_i Y (bkS Y) (r_V (As := []) (rest := []) X (c_preS X Y) (cM_bad ho_5) (cwX12_44 X (by decide)) (va_recv X.K Y.1 (q := (RX12, TX12, 15)) (q0 := 0) (ci := 12) rfl rfl) rfl hl.1 (Nat.le_of_ble_eq_true rfl) rfl dX12_count_21 ⟨Nat.zero_le _, Nat.zero_le _⟩) (fun H locs Y => ?_)
    obtain ⟨e90, e91⟩ := sj2 hf
    subst e90
    subst e91
    exact x_iret X Y dX12_count_24
  · have hf := ite_f hf c_2
    refine lv_aload_n hx hb dX12_count_12 rfl (lv_at hl 0 rfl) ?_
    refine lv_iload_n hx hb dX12_count_13 rfl (lv_at hl 1 rfl) ?_
    obtain ⟨r_6, ho_7, hf⟩ := bd1_some hf
    refine t_i Y (bkS Y) (r_V (As := [.int x1]) (rest := []) X (c_preS X Y) (cM_countOf ho_7) (cwX12_238 X (by decide)) (va_recv X.K Y.1 (q := (RX12, TX12, 15)) (q0 := 0) (ci := 12) rfl rfl) rfl hl.1 (Nat.le_of_ble_eq_true rfl) rfl dX12_count_14 ⟨Nat.zero_le _, Nat.zero_le _⟩) (fun H locs Y => ?_)
    refine lv_goto (tgt := 24) hx hb dX12_count_17 (by decide) ?_
    obtain ⟨e90, e91⟩ := sj2 hf
    subst e90
    subst e91
    exact x_iret X Y dX12_count_24
theorem cM_count {l : Launch} {Γ : Gm} {Am : Nat → Nat} {w : Nat → Int32} {kp : Nat → Int32} {tx : Nat → Int32} {td : Int32} {rf : Nat → Int32} {fa : Int64} {fb : Int64} {ap : Int32} {sp : Int32} {iw : Int32} {ig : Int32} {nu : Nat → Int32} {lst : Int32} {lwo : Int32} {hh : Int64} {rf_z : Nat → Int32} {r0 : Int32} {x1 : Int32} (h : M_count x1 w td rf = some (r0, rf_z)) : CI l Γ yX12_count (Cond.code yX12_count cX12_count 2 (some .int) :: GW) rmM_count [.ref (Am 0), .int x1] (WM Γ Am w kp tx td rf fa fb ap sp iw ig nu lst lwo hh) (WM Γ Am w kp tx td rf_z fa fb ap sp iw ig nu lst lwo hh) r0 := ofBody (Qc := QcI Γ _ _ r0) (by decide) (Nat.le_of_ble_eq_true rfl) (fun p e s m below meth c ls _ X Y hl => bM_count_e X h Y hl)
theorem gfX12_243 (X : Cx Γ p s m args meth c RX12 cc nL ret w0) (Y : Wd Γ w0 s ws H locs) {v : Value} (q0 : Nat) {fs : List Value} (he : ws[q0]? = some (a, .inr (12, fs))) (hv : fs[14]? = some v) (hdg : decode cc pc = .ok (.getfield 243, 3)) (kk : W p l e R s m args below meth c H locs cells slots Q (F0 m (pc + 3) ls (v :: rest))) : W p l e R s m args below meth c H locs cells slots Q (F0 m pc ls (.ref a :: rest)) := x_get X Y iX12 rfl 14 (by decide) rfl kw194 q0 he hv hdg kk
theorem pfX12_243 (X : Cx Γ p s m args meth c RX12 cc nL ret w0) (Y : Wd Γ w0 s ws H locs) (q0 : Nat) {fs : List Value} (he : ws[q0]? = some (a, .inr (12, fs))) {v : Value} (hn : narrow (tyX12 14) v = v) (hfit : fits (tyX12 14) v = true) (hl : 14 < fs.length) (hw : ws.set q0 (a, .inr (12, fs.set 14 v)) = ws') (hdg : decode cc pc = .ok (.putfield 243, 3)) (kk : ∀ (H1 : Heap) (locs1 : List Loc), Wd Γ w0 s ws' H1 locs1 → W p l e R s m args below meth c H1 locs1 cells slots Q (F0 m (pc + 3) ls rest)) : W p l e R s m args below meth c H locs cells slots Q (F0 m pc ls (v :: .ref a :: rest)) := x_put X Y iX12 tyX12 tyX12_ok nmX12 rfl 14 (by decide) rfl kw194 rfl q0 he hn hfit hl hw hdg kk
def rmM_mix : Room := { frames := 0, cells := 0, slots := 0, locals := 0 }
def M_mix (x1 : Int64) (hh : Int64) : Option (Int64) := bnd (((31 : Int64) * hh) + x1) (fun (hh_1 : Int64) => some hh_1)
set_option maxHeartbeats 4000000 in
set_option maxRecDepth 100000 in
theorem bM_mix_e {Am : Nat → Nat} {w : Nat → Int32} {kp : Nat → Int32} {tx : Nat → Int32} {td : Int32} {rf : Nat → Int32} {fa : Int64} {fb : Int64} {ap : Int32} {sp : Int32} {iw : Int32} {ig : Int32} {nu : Nat → Int32} {lst : Int32} {lwo : Int32} {hh : Int64} {hh_z : Int64} {x1 : Int64} (X : Cx Γ p s m args meth c RX12 cX12_mix 3 none w0) (hf : M_mix x1 hh = some hh_z) (Y : Wd Γ w0 s (WM Γ Am w kp tx td rf fa fb ap sp iw ig nu lst lwo hh) H locs) (hl : lv_has ls 3 [(0, .ref (Am 0)), (1, .long x1)]) : W p l e rmM_mix s m args below meth c H locs 0 0 (EV Γ below args s w0 (WM Γ Am w kp tx td rf fa fb ap sp iw ig nu lst lwo hh_z)) (F0 m 0 ls []) := by
  have hx := X.1
  have hb := X.2.1
  refine lv_aload_n hx hb dX12_mix_0 rfl (lv_at hl 0 rfl) ?_
  refine lv_ldc2 (v := (31 : Int64)) hx hb X.2.2.2.1 (X.2.2.2.2.1 _ kw193) dX12_mix_1 ?_
  refine lv_aload_n hx hb dX12_mix_4 rfl (lv_at hl 0 rfl) ?_
  refine gfX12_243 X Y (v := .long hh) 0 rfl rfl dX12_mix_5 ?_
  refine lv_lmul hx hb dX12_mix_8 ?_
  refine lv_lload_n hx hb dX12_mix_9 rfl (lv_at hl 1 rfl) ?_
  refine lv_ladd hx hb dX12_mix_10 ?_
  refine lv_topl (fun hh_1 e_hh_1 => ?_)
  have hf := bnd_eq hf e_hh_1
  refine pfX12_243 X Y 0 rfl rfl rfl (Nat.le_of_ble_eq_true rfl) (ws' := (WM Γ Am w kp tx td rf fa fb ap sp iw ig nu lst lwo hh_1)) rfl dX12_mix_11 (fun H locs Y => ?_)
  have e90 := Option.some.inj hf
  subst e90
  exact x_vret X Y dX12_mix_14
theorem cM_mix {l : Launch} {Γ : Gm} {Am : Nat → Nat} {w : Nat → Int32} {kp : Nat → Int32} {tx : Nat → Int32} {td : Int32} {rf : Nat → Int32} {fa : Int64} {fb : Int64} {ap : Int32} {sp : Int32} {iw : Int32} {ig : Int32} {nu : Nat → Int32} {lst : Int32} {lwo : Int32} {hh : Int64} {hh_z : Int64} {x1 : Int64} (h : M_mix x1 hh = some hh_z) : CV l Γ yX12_mix (Cond.code yX12_mix cX12_mix 3 none :: GW) rmM_mix [.ref (Am 0), .long x1] (WM Γ Am w kp tx td rf fa fb ap sp iw ig nu lst lwo hh) (WM Γ Am w kp tx td rf fa fb ap sp iw ig nu lst lwo hh_z) := ofBody (Qc := QcV Γ _ _) (by decide) (Nat.le_of_ble_eq_true rfl) (fun p e s m below meth c ls _ X Y hl => bM_mix_e X h Y hl)
theorem dmX12_mixV : yX12_mix.cls = RX12 ∧ yX12_mix.cls ≠ "java/lang/invoke/MethodHandle" ∧ yX12_mix.cls ≠ "java/lang/invoke/VarHandle" ∧ (parseMethodDescriptor yX12_mix.desc).map (fun d => d.parameters.length) = some 1 := by decide +kernel
theorem cwX12_248 (X : Cx Γ p s m args meth c RX12 cc nL ret w0) (hR : rmM_mix.frames + 1 ≤ R.frames ∧ 8 + (3 + 11) + rmM_mix.locals ≤ R.locals) : CallW R s args RX12 RX12 248 yX12_mix cX12_mix 3 none (Cond.code yX12_mix cX12_mix 3 none :: GW) rmM_mix 0 0 1 := cw_V X kw196 kw197 kw198 kw4 kw199 dmX12_mixV rfl rfl hR
def rmM_digest : Room := { frames := 2, cells := 0, slots := 0, locals := 43 }
def M_digest_45 (rc33 : Int32 → (Nat → Int32) → Int32 → Int64 → Int64 → Int64 → Option (Int64 × Int64)) (rc45 : Int32 → Int32 → (Nat → Int32) → Int32 → Int64 → Int64 → Int64 → Option (Int64 × Int64)) (x1 : Int32) (x2 : Int32) (w : Nat → Int32) (td : Int32) (fa : Int64) (fb : Int64) (hh : Int64) : Option (Int64 × Int64) := if (6 : Int32) ≤ x2 then (bd1 (M_mix (((w 5) >>> (x1 &&& 31)) &&& (1 : Int32)).toInt64 hh) (fun (hh_2 : Int64) => bnd (x1 + (1 : Int32)) (fun (x1_3 : Int32) => rc33 x1_3 w td fa fb hh_2))) else (ck (inb (((6 : Int32) + ((8 : Int32) * x2)) + x1) 320) (bd1 (M_mix (w (((6 : Int32) + ((8 : Int32) * x2)) + x1).toNatClampNeg).toInt64 hh) (fun (hh_6 : Int64) => bnd (x2 + (1 : Int32)) (fun (x2_7 : Int32) => rc45 x1 x2_7 w td fa fb hh_6))))
set_option maxHeartbeats 4000000 in
set_option maxRecDepth 100000 in
theorem bM_digest_45 {Am : Nat → Nat} {w : Nat → Int32} {kp : Nat → Int32} {tx : Nat → Int32} {td : Int32} {rf : Nat → Int32} {fa : Int64} {fb : Int64} {ap : Int32} {sp : Int32} {iw : Int32} {ig : Int32} {nu : Nat → Int32} {lst : Int32} {lwo : Int32} {hh : Int64} {hh_z : Int64} {r0 : Int64} {x1 : Int32} {x2 : Int32} {rc33 : Int32 → (Nat → Int32) → Int32 → Int64 → Int64 → Int64 → Option (Int64 × Int64)} {rc45 : Int32 → Int32 → (Nat → Int32) → Int32 → Int64 → Int64 → Int64 → Option (Int64 × Int64)} (X : Cx Γ p s m args meth c RX12 cX12_digest 3 (some .long) w0) (h33 : ∀ (x1 : Int32) (w : Nat → Int32) (td : Int32) (fa : Int64) (fb : Int64) (hh : Int64), rc33 x1 w td fa fb hh = some (r0, hh_z) → ∀ (H : Heap) (locs : List Loc) (ls : Array Slot), Wd Γ w0 s (WM Γ Am w kp tx td rf fa fb ap sp iw ig nu lst lwo hh) H locs → lv_has ls 3 [(0, .ref (Am 0)), (1, .int x1)] → W p l e rmM_digest s m args below meth c H locs 0 0 (EL Γ below args s w0 (WM Γ Am w kp tx td rf fa fb ap sp iw ig nu lst lwo hh_z) r0) (F0 m 33 ls [])) (h45 : ∀ (x1 : Int32) (x2 : Int32) (w : Nat → Int32) (td : Int32) (fa : Int64) (fb : Int64) (hh : Int64), rc45 x1 x2 w td fa fb hh = some (r0, hh_z) → ∀ (H : Heap) (locs : List Loc) (ls : Array Slot), Wd Γ w0 s (WM Γ Am w kp tx td rf fa fb ap sp iw ig nu lst lwo hh) H locs → lv_has ls 3 [(0, .ref (Am 0)), (1, .int x1), (2, .int x2)] → W p l e rmM_digest s m args below meth c H locs 0 0 (EL Γ below args s w0 (WM Γ Am w kp tx td rf fa fb ap sp iw ig nu lst lwo hh_z) r0) (F0 m 45 ls [])) (hf : M_digest_45 rc33 rc45 x1 x2 w td fa fb hh = some (r0, hh_z)) (Y : Wd Γ w0 s (WM Γ Am w kp tx td rf fa fb ap sp iw ig nu lst lwo hh) H locs) (hl : lv_has ls 3 [(0, .ref (Am 0)), (1, .int x1), (2, .int x2)]) : W p l e rmM_digest s m args below meth c H locs 0 0 (EL Γ below args s w0 (WM Γ Am w kp tx td rf fa fb ap sp iw ig nu lst lwo hh_z) r0) (F0 m 45 ls []) := by
  have hx := X.1
  have hb := X.2.1
  refine lv_iload_n hx hb dX12_digest_45 rfl (lv_at hl 2 rfl) ?_
  refine lv_bipush (v := (6 : Int32)) hx hb dX12_digest_46 (by decide) ?_
  refine lv_icmp_ge (tgt := 76) hx hb dX12_digest_48 (by decide) (fun c_1 => ?_) (fun c_1 => ?_)
  · have hf := ite_t hf c_1
    refine lv_aload_n hx hb dX12_digest_76 rfl (lv_at hl 0 rfl) ?_
    refine lv_aload_n hx hb dX12_digest_77 rfl (lv_at hl 0 rfl) ?_
    refine gfX12_7 X Y (v := .ref (Am 1)) 0 rfl rfl dX12_digest_78 ?_
    refine lv_iconst (v := (5 : Int32)) hx hb dX12_digest_81 (by decide) ?_
    refine x_iald X Y 1 rfl (j := 5) rfl rfl dX12_digest_82 ?_
    refine lv_iload_n hx hb dX12_digest_83 rfl (lv_at hl 1 rfl) ?_
    refine lv_ishr hx hb dX12_digest_84 ?_
    refine lv_iconst (v := (1 : Int32)) hx hb dX12_digest_85 (by decide) ?_
    refine lv_iand hx hb dX12_digest_86 ?_
    refine lv_i2l (v := (((w 5) >>> (x1 &&& 31)) &&& (1 : Int32)).toInt64) hx hb dX12_digest_87 rfl ?_
    obtain ⟨hh_2, ho_4, hf⟩ := bd1_some hf
    refine t_v Y (bkS Y) (r_V (As := [.long (((w 5) >>> (x1 &&& 31)) &&& (1 : Int32)).toInt64]) (rest := []) X (c_preS X Y) (cM_mix ho_4) (cwX12_248 X (by decide)) (va_recv X.K Y.1 (q := (RX12, TX12, 15)) (q0 := 0) (ci := 12) rfl rfl) rfl hl.1 (Nat.le_of_ble_eq_true rfl) rfl dX12_digest_88 ⟨Nat.zero_le _, Nat.zero_le _⟩) (fun H locs Y => ?_)
    obtain ⟨x1_3, e_x1_3⟩ : ∃ z : Int32, z = (x1 + (1 : Int32)) := ⟨_, rfl⟩
    have hf := bnd_eq hf e_x1_3
    refine lv_iinc (v := x1_3) (lv' := [(1, .int x1_3), (0, .ref (Am 0)), (2, .int x2)]) hx hb dX12_digest_91 hl (k := 1) rfl (by rw [e_x1_3]; rfl) (by decide) rfl (fun ls hl => ?_)
    refine lv_goto (tgt := 33) hx hb dX12_digest_94 (by decide) ?_
    exact h33 _ _ _ _ _ _ hf _ _ _ Y (lv_sub hl [1, 0] rfl)
  · have hf := ite_f hf c_1
    refine lv_aload_n hx hb dX12_digest_51 rfl (lv_at hl 0 rfl) ?_
    refine lv_aload_n hx hb dX12_digest_52 rfl (lv_at hl 0 rfl) ?_
    refine gfX12_7 X Y (v := .ref (Am 1)) 0 rfl rfl dX12_digest_53 ?_
    refine lv_bipush (v := (6 : Int32)) hx hb dX12_digest_56 (by decide) ?_
    refine lv_bipush (v := (8 : Int32)) hx hb dX12_digest_58 (by decide) ?_
    refine lv_iload_n hx hb dX12_digest_60 rfl (lv_at hl 2 rfl) ?_
    refine lv_imul hx hb dX12_digest_61 ?_
    refine lv_iadd hx hb dX12_digest_62 ?_
    refine lv_iload_n hx hb dX12_digest_63 rfl (lv_at hl 1 rfl) ?_
    refine lv_iadd hx hb dX12_digest_64 ?_
    obtain ⟨hi_5, hf⟩ := ck_some hf
    refine x_iald X Y 1 rfl rfl hi_5 dX12_digest_65 ?_
    refine lv_i2l (v := (w (((6 : Int32) + ((8 : Int32) * x2)) + x1).toNatClampNeg).toInt64) hx hb dX12_digest_66 rfl ?_
    obtain ⟨hh_6, ho_8, hf⟩ := bd1_some hf
    refine t_v Y (bkS Y) (r_V (As := [.long (w (((6 : Int32) + ((8 : Int32) * x2)) + x1).toNatClampNeg).toInt64]) (rest := []) X (c_preS X Y) (cM_mix ho_8) (cwX12_248 X (by decide)) (va_recv X.K Y.1 (q := (RX12, TX12, 15)) (q0 := 0) (ci := 12) rfl rfl) rfl hl.1 (Nat.le_of_ble_eq_true rfl) rfl dX12_digest_67 ⟨Nat.zero_le _, Nat.zero_le _⟩) (fun H locs Y => ?_)
    obtain ⟨x2_7, e_x2_7⟩ : ∃ z : Int32, z = (x2 + (1 : Int32)) := ⟨_, rfl⟩
    have hf := bnd_eq hf e_x2_7
    refine lv_iinc (v := x2_7) (lv' := [(2, .int x2_7), (0, .ref (Am 0)), (1, .int x1)]) hx hb dX12_digest_70 hl (k := 2) rfl (by rw [e_x2_7]; rfl) (by decide) rfl (fun ls hl => ?_)
    refine lv_goto (tgt := 45) hx hb dX12_digest_73 (by decide) ?_
    exact h45 _ _ _ _ _ _ _ hf _ _ _ Y (lv_sub hl [1, 2, 0] rfl)
def M_digest_L45 (rc33 : Int32 → (Nat → Int32) → Int32 → Int64 → Int64 → Int64 → Option (Int64 × Int64)) : Nat → Int32 → Int32 → (Nat → Int32) → Int32 → Int64 → Int64 → Int64 → Option (Int64 × Int64)
  | 0, _, _, _, _, _, _, _ => none
  | n + 1, x1, x2, w, td, fa, fb, hh => M_digest_45 rc33 (M_digest_L45 rc33 n) x1 x2 w td fa fb hh
theorem lM_digest_45 {Am : Nat → Nat} {kp : Nat → Int32} {tx : Nat → Int32} {rf : Nat → Int32} {ap : Int32} {sp : Int32} {iw : Int32} {ig : Int32} {nu : Nat → Int32} {lst : Int32} {lwo : Int32} {hh_z : Int64} {r0 : Int64} {rc33 : Int32 → (Nat → Int32) → Int32 → Int64 → Int64 → Int64 → Option (Int64 × Int64)} (X : Cx Γ p s m args meth c RX12 cX12_digest 3 (some .long) w0) (h33 : ∀ (x1 : Int32) (w : Nat → Int32) (td : Int32) (fa : Int64) (fb : Int64) (hh : Int64), rc33 x1 w td fa fb hh = some (r0, hh_z) → ∀ (H : Heap) (locs : List Loc) (ls : Array Slot), Wd Γ w0 s (WM Γ Am w kp tx td rf fa fb ap sp iw ig nu lst lwo hh) H locs → lv_has ls 3 [(0, .ref (Am 0)), (1, .int x1)] → W p l e rmM_digest s m args below meth c H locs 0 0 (EL Γ below args s w0 (WM Γ Am w kp tx td rf fa fb ap sp iw ig nu lst lwo hh_z) r0) (F0 m 33 ls [])) : ∀ (n : Nat) (x1 : Int32) (x2 : Int32) (w : Nat → Int32) (td : Int32) (fa : Int64) (fb : Int64) (hh : Int64), M_digest_L45 rc33 n x1 x2 w td fa fb hh = some (r0, hh_z) → ∀ (H : Heap) (locs : List Loc) (ls : Array Slot), Wd Γ w0 s (WM Γ Am w kp tx td rf fa fb ap sp iw ig nu lst lwo hh) H locs → lv_has ls 3 [(0, .ref (Am 0)), (1, .int x1), (2, .int x2)] → W p l e rmM_digest s m args below meth c H locs 0 0 (EL Γ below args s w0 (WM Γ Am w kp tx td rf fa fb ap sp iw ig nu lst lwo hh_z) r0) (F0 m 45 ls []) := by
  intro n
  induction n with
  | zero => intro x1 x2 w td fa fb hh hf; cases hf
  | succ n ih => intro x1 x2 w td fa fb hh hf H locs ls Y hl; exact bM_digest_45 X h33 ih hf Y hl
def M_digest_99 (rc99 : Int32 → (Nat → Int32) → Int32 → Int64 → Int64 → Int64 → Option (Int64 × Int64)) (x1 : Int32) (w : Nat → Int32) (td : Int32) (fa : Int64) (fb : Int64) (hh : Int64) : Option (Int64 × Int64) := if ((3 : Int32) * (w 3)) ≤ x1 then (bd1 (M_mix fa hh) (fun (hh_2 : Int64) => bd1 (M_mix fb hh_2) (fun (hh_3 : Int64) => some (hh_3, hh_3)))) else (ck (inb ((54 : Int32) + x1) 320) (bd1 (M_mix (w ((54 : Int32) + x1).toNatClampNeg).toInt64 hh) (fun (hh_7 : Int64) => bnd (x1 + (1 : Int32)) (fun (x1_8 : Int32) => rc99 x1_8 w td fa fb hh_7))))
set_option maxHeartbeats 4000000 in
set_option maxRecDepth 100000 in
theorem bM_digest_99 {Am : Nat → Nat} {w : Nat → Int32} {kp : Nat → Int32} {tx : Nat → Int32} {td : Int32} {rf : Nat → Int32} {fa : Int64} {fb : Int64} {ap : Int32} {sp : Int32} {iw : Int32} {ig : Int32} {nu : Nat → Int32} {lst : Int32} {lwo : Int32} {hh : Int64} {hh_z : Int64} {r0 : Int64} {x1 : Int32} {rc99 : Int32 → (Nat → Int32) → Int32 → Int64 → Int64 → Int64 → Option (Int64 × Int64)} (X : Cx Γ p s m args meth c RX12 cX12_digest 3 (some .long) w0) (h99 : ∀ (x1 : Int32) (w : Nat → Int32) (td : Int32) (fa : Int64) (fb : Int64) (hh : Int64), rc99 x1 w td fa fb hh = some (r0, hh_z) → ∀ (H : Heap) (locs : List Loc) (ls : Array Slot), Wd Γ w0 s (WM Γ Am w kp tx td rf fa fb ap sp iw ig nu lst lwo hh) H locs → lv_has ls 3 [(0, .ref (Am 0)), (1, .int x1)] → W p l e rmM_digest s m args below meth c H locs 0 0 (EL Γ below args s w0 (WM Γ Am w kp tx td rf fa fb ap sp iw ig nu lst lwo hh_z) r0) (F0 m 99 ls [])) (hf : M_digest_99 rc99 x1 w td fa fb hh = some (r0, hh_z)) (Y : Wd Γ w0 s (WM Γ Am w kp tx td rf fa fb ap sp iw ig nu lst lwo hh) H locs) (hl : lv_has ls 3 [(0, .ref (Am 0)), (1, .int x1)]) : W p l e rmM_digest s m args below meth c H locs 0 0 (EL Γ below args s w0 (WM Γ Am w kp tx td rf fa fb ap sp iw ig nu lst lwo hh_z) r0) (F0 m 99 ls []) := by
  have hx := X.1
  have hb := X.2.1
  refine lv_iload_n hx hb dX12_digest_99 rfl (lv_at hl 1 rfl) ?_
  refine lv_iconst (v := (3 : Int32)) hx hb dX12_digest_100 (by decide) ?_
  refine lv_aload_n hx hb dX12_digest_101 rfl (lv_at hl 0 rfl) ?_
  refine gfX12_7 X Y (v := .ref (Am 1)) 0 rfl rfl dX12_digest_102 ?_
  refine lv_iconst (v := (3 : Int32)) hx hb dX12_digest_105 (by decide) ?_
  refine x_iald X Y 1 rfl (j := 3) rfl rfl dX12_digest_106 ?_
  refine lv_imul hx hb dX12_digest_107 ?_
  refine lv_icmp_ge (tgt := 131) hx hb dX12_digest_108 (by decide) (fun c_1 => ?_) (fun c_1 => ?_)
  · have hf := ite_t hf c_1
    refine lv_aload_n hx hb dX12_digest_131 rfl (lv_at hl 0 rfl) ?_
    refine lv_aload_n hx hb dX12_digest_132 rfl (lv_at hl 0 rfl) ?_
    refine gfX12_178 X Y (v := .long fa) 0 rfl rfl dX12_digest_133 ?_
    obtain ⟨hh_2, ho_5, hf⟩ := bd1_some hf
    refine t_v Y (bkS Y) (r_V (As := [.long fa]) (rest := []) X (c_preS X Y) (cM_mix ho_5) (cwX12_248 X (by decide)) (va_recv X.K Y.1 (q := (RX12, TX12, 15)) (q0 := 0) (ci := 12) rfl rfl) rfl hl.1 (Nat.le_of_ble_eq_true rfl) rfl dX12_digest_136 ⟨Nat.zero_le _, Nat.zero_le _⟩) (fun H locs Y => ?_)
    refine lv_aload_n hx hb dX12_digest_139 rfl (lv_at hl 0 rfl) ?_
    refine lv_aload_n hx hb dX12_digest_140 rfl (lv_at hl 0 rfl) ?_
    refine gfX12_23 X Y (v := .long fb) 0 rfl rfl dX12_digest_141 ?_
    obtain ⟨hh_3, ho_4, hf⟩ := bd1_some hf
    refine t_v Y (bkS Y) (r_V (As := [.long fb]) (rest := []) X (c_preS X Y) (cM_mix ho_4) (cwX12_248 X (by decide)) (va_recv X.K Y.1 (q := (RX12, TX12, 15)) (q0 := 0) (ci := 12) rfl rfl) rfl hl.1 (Nat.le_of_ble_eq_true rfl) rfl dX12_digest_144 ⟨Nat.zero_le _, Nat.zero_le _⟩) (fun H locs Y => ?_)
    refine lv_aload_n hx hb dX12_digest_147 rfl (lv_at hl 0 rfl) ?_
    refine gfX12_243 X Y (v := .long hh_3) 0 rfl rfl dX12_digest_148 ?_
    obtain ⟨e90, e91⟩ := sj2 hf
    subst e90
    subst e91
    exact x_lret X Y dX12_digest_151
  · have hf := ite_f hf c_1
    refine lv_aload_n hx hb dX12_digest_111 rfl (lv_at hl 0 rfl) ?_
    refine lv_aload_n hx hb dX12_digest_112 rfl (lv_at hl 0 rfl) ?_
    refine gfX12_7 X Y (v := .ref (Am 1)) 0 rfl rfl dX12_digest_113 ?_
    refine lv_bipush (v := (54 : Int32)) hx hb dX12_digest_116 (by decide) ?_
    refine lv_iload_n hx hb dX12_digest_118 rfl (lv_at hl 1 rfl) ?_
    refine lv_iadd hx hb dX12_digest_119 ?_
    obtain ⟨hi_6, hf⟩ := ck_some hf
    refine x_iald X Y 1 rfl rfl hi_6 dX12_digest_120 ?_
    refine lv_i2l (v := (w ((54 : Int32) + x1).toNatClampNeg).toInt64) hx hb dX12_digest_121 rfl ?_
    obtain ⟨hh_7, ho_9, hf⟩ := bd1_some hf
    refine t_v Y (bkS Y) (r_V (As := [.long (w ((54 : Int32) + x1).toNatClampNeg).toInt64]) (rest := []) X (c_preS X Y) (cM_mix ho_9) (cwX12_248 X (by decide)) (va_recv X.K Y.1 (q := (RX12, TX12, 15)) (q0 := 0) (ci := 12) rfl rfl) rfl hl.1 (Nat.le_of_ble_eq_true rfl) rfl dX12_digest_122 ⟨Nat.zero_le _, Nat.zero_le _⟩) (fun H locs Y => ?_)
    obtain ⟨x1_8, e_x1_8⟩ : ∃ z : Int32, z = (x1 + (1 : Int32)) := ⟨_, rfl⟩
    have hf := bnd_eq hf e_x1_8
    refine lv_iinc (v := x1_8) (lv' := [(1, .int x1_8), (0, .ref (Am 0))]) hx hb dX12_digest_125 hl (k := 1) rfl (by rw [e_x1_8]; rfl) (by decide) rfl (fun ls hl => ?_)
    refine lv_goto (tgt := 99) hx hb dX12_digest_128 (by decide) ?_
    exact h99 _ _ _ _ _ _ hf _ _ _ Y (lv_sub hl [1, 0] rfl)
def M_digest_L99 : Nat → Int32 → (Nat → Int32) → Int32 → Int64 → Int64 → Int64 → Option (Int64 × Int64)
  | 0, _, _, _, _, _, _ => none
  | n + 1, x1, w, td, fa, fb, hh => M_digest_99 (M_digest_L99 n) x1 w td fa fb hh
theorem lM_digest_99 {Am : Nat → Nat} {kp : Nat → Int32} {tx : Nat → Int32} {rf : Nat → Int32} {ap : Int32} {sp : Int32} {iw : Int32} {ig : Int32} {nu : Nat → Int32} {lst : Int32} {lwo : Int32} {hh_z : Int64} {r0 : Int64} (X : Cx Γ p s m args meth c RX12 cX12_digest 3 (some .long) w0) : ∀ (n : Nat) (x1 : Int32) (w : Nat → Int32) (td : Int32) (fa : Int64) (fb : Int64) (hh : Int64), M_digest_L99 n x1 w td fa fb hh = some (r0, hh_z) → ∀ (H : Heap) (locs : List Loc) (ls : Array Slot), Wd Γ w0 s (WM Γ Am w kp tx td rf fa fb ap sp iw ig nu lst lwo hh) H locs → lv_has ls 3 [(0, .ref (Am 0)), (1, .int x1)] → W p l e rmM_digest s m args below meth c H locs 0 0 (EL Γ below args s w0 (WM Γ Am w kp tx td rf fa fb ap sp iw ig nu lst lwo hh_z) r0) (F0 m 99 ls []) := by
  intro n
  induction n with
  | zero => intro x1 w td fa fb hh hf; cases hf
  | succ n ih => intro x1 w td fa fb hh hf H locs ls Y hl; exact bM_digest_99 X ih hf Y hl
def M_digest_33 (rc33 : Int32 → (Nat → Int32) → Int32 → Int64 → Int64 → Int64 → Option (Int64 × Int64)) (x1 : Int32) (w : Nat → Int32) (td : Int32) (fa : Int64) (fb : Int64) (hh : Int64) : Option (Int64 × Int64) := if (w 0) ≤ x1 then (M_digest_L99 FU (0 : Int32) w td fa fb hh) else (M_digest_L45 rc33 FU x1 (0 : Int32) w td fa fb hh)
set_option maxHeartbeats 4000000 in
set_option maxRecDepth 100000 in
theorem bM_digest_33 {Am : Nat → Nat} {w : Nat → Int32} {kp : Nat → Int32} {tx : Nat → Int32} {td : Int32} {rf : Nat → Int32} {fa : Int64} {fb : Int64} {ap : Int32} {sp : Int32} {iw : Int32} {ig : Int32} {nu : Nat → Int32} {lst : Int32} {lwo : Int32} {hh : Int64} {hh_z : Int64} {r0 : Int64} {x1 : Int32} {rc33 : Int32 → (Nat → Int32) → Int32 → Int64 → Int64 → Int64 → Option (Int64 × Int64)} (X : Cx Γ p s m args meth c RX12 cX12_digest 3 (some .long) w0) (h33 : ∀ (x1 : Int32) (w : Nat → Int32) (td : Int32) (fa : Int64) (fb : Int64) (hh : Int64), rc33 x1 w td fa fb hh = some (r0, hh_z) → ∀ (H : Heap) (locs : List Loc) (ls : Array Slot), Wd Γ w0 s (WM Γ Am w kp tx td rf fa fb ap sp iw ig nu lst lwo hh) H locs → lv_has ls 3 [(0, .ref (Am 0)), (1, .int x1)] → W p l e rmM_digest s m args below meth c H locs 0 0 (EL Γ below args s w0 (WM Γ Am w kp tx td rf fa fb ap sp iw ig nu lst lwo hh_z) r0) (F0 m 33 ls [])) (hf : M_digest_33 rc33 x1 w td fa fb hh = some (r0, hh_z)) (Y : Wd Γ w0 s (WM Γ Am w kp tx td rf fa fb ap sp iw ig nu lst lwo hh) H locs) (hl : lv_has ls 3 [(0, .ref (Am 0)), (1, .int x1)]) : W p l e rmM_digest s m args below meth c H locs 0 0 (EL Γ below args s w0 (WM Γ Am w kp tx td rf fa fb ap sp iw ig nu lst lwo hh_z) r0) (F0 m 33 ls []) := by
  have hx := X.1
  have hb := X.2.1
  refine lv_iload_n hx hb dX12_digest_33 rfl (lv_at hl 1 rfl) ?_
  refine lv_aload_n hx hb dX12_digest_34 rfl (lv_at hl 0 rfl) ?_
  refine gfX12_7 X Y (v := .ref (Am 1)) 0 rfl rfl dX12_digest_35 ?_
  refine lv_iconst (v := (0 : Int32)) hx hb dX12_digest_38 (by decide) ?_
  refine x_iald X Y 1 rfl (j := 0) rfl rfl dX12_digest_39 ?_
  refine lv_icmp_ge (tgt := 97) hx hb dX12_digest_40 (by decide) (fun c_1 => ?_) (fun c_1 => ?_)
  · have hf := ite_t hf c_1
    refine lv_iconst (v := (0 : Int32)) hx hb dX12_digest_97 (by decide) ?_
    refine lv_istore_n (lv' := [(1, .int (0 : Int32)), (0, .ref (Am 0))]) hx hb dX12_digest_98 rfl hl (by decide) rfl (fun ls hl => ?_)
    exact lM_digest_99 X _ _ _ _ _ _ _ hf _ _ _ Y (lv_sub hl [1, 0] rfl)
  · have hf := ite_f hf c_1
    refine lv_iconst (v := (0 : Int32)) hx hb dX12_digest_43 (by decide) ?_
    refine lv_istore_n (lv' := [(2, .int (0 : Int32)), (0, .ref (Am 0)), (1, .int x1)]) hx hb dX12_digest_44 rfl hl (by decide) rfl (fun ls hl => ?_)
    exact lM_digest_45 X h33 _ _ _ _ _ _ _ _ hf _ _ _ Y (lv_sub hl [1, 2, 0] rfl)
def M_digest_L33 : Nat → Int32 → (Nat → Int32) → Int32 → Int64 → Int64 → Int64 → Option (Int64 × Int64)
  | 0, _, _, _, _, _, _ => none
  | n + 1, x1, w, td, fa, fb, hh => M_digest_33 (M_digest_L33 n) x1 w td fa fb hh
theorem lM_digest_33 {Am : Nat → Nat} {kp : Nat → Int32} {tx : Nat → Int32} {rf : Nat → Int32} {ap : Int32} {sp : Int32} {iw : Int32} {ig : Int32} {nu : Nat → Int32} {lst : Int32} {lwo : Int32} {hh_z : Int64} {r0 : Int64} (X : Cx Γ p s m args meth c RX12 cX12_digest 3 (some .long) w0) : ∀ (n : Nat) (x1 : Int32) (w : Nat → Int32) (td : Int32) (fa : Int64) (fb : Int64) (hh : Int64), M_digest_L33 n x1 w td fa fb hh = some (r0, hh_z) → ∀ (H : Heap) (locs : List Loc) (ls : Array Slot), Wd Γ w0 s (WM Γ Am w kp tx td rf fa fb ap sp iw ig nu lst lwo hh) H locs → lv_has ls 3 [(0, .ref (Am 0)), (1, .int x1)] → W p l e rmM_digest s m args below meth c H locs 0 0 (EL Γ below args s w0 (WM Γ Am w kp tx td rf fa fb ap sp iw ig nu lst lwo hh_z) r0) (F0 m 33 ls []) := by
  intro n
  induction n with
  | zero => intro x1 w td fa fb hh hf; cases hf
  | succ n ih => intro x1 w td fa fb hh hf H locs ls Y hl; exact bM_digest_33 X ih hf Y hl
def M_digest_9 (rc9 : Int32 → (Nat → Int32) → Int32 → Int64 → Int64 → Int64 → Option (Int64 × Int64)) (x1 : Int32) (w : Nat → Int32) (td : Int32) (fa : Int64) (fb : Int64) (hh : Int64) : Option (Int64 × Int64) := if (7 : Int32) ≤ x1 then (M_digest_L33 FU (0 : Int32) w td fa fb hh) else (bd1 (M_countOf x1 w td) (fun (r_2 : Int32) => bd1 (M_mix r_2.toInt64 hh) (fun (hh_3 : Int64) => bnd (x1 + (1 : Int32)) (fun (x1_4 : Int32) => rc9 x1_4 w td fa fb hh_3))))
set_option maxHeartbeats 4000000 in
set_option maxRecDepth 100000 in
theorem bM_digest_9 {Am : Nat → Nat} {w : Nat → Int32} {kp : Nat → Int32} {tx : Nat → Int32} {td : Int32} {rf : Nat → Int32} {fa : Int64} {fb : Int64} {ap : Int32} {sp : Int32} {iw : Int32} {ig : Int32} {nu : Nat → Int32} {lst : Int32} {lwo : Int32} {hh : Int64} {hh_z : Int64} {r0 : Int64} {x1 : Int32} {rc9 : Int32 → (Nat → Int32) → Int32 → Int64 → Int64 → Int64 → Option (Int64 × Int64)} (X : Cx Γ p s m args meth c RX12 cX12_digest 3 (some .long) w0) (h9 : ∀ (x1 : Int32) (w : Nat → Int32) (td : Int32) (fa : Int64) (fb : Int64) (hh : Int64), rc9 x1 w td fa fb hh = some (r0, hh_z) → ∀ (H : Heap) (locs : List Loc) (ls : Array Slot), Wd Γ w0 s (WM Γ Am w kp tx td rf fa fb ap sp iw ig nu lst lwo hh) H locs → lv_has ls 3 [(0, .ref (Am 0)), (1, .int x1)] → W p l e rmM_digest s m args below meth c H locs 0 0 (EL Γ below args s w0 (WM Γ Am w kp tx td rf fa fb ap sp iw ig nu lst lwo hh_z) r0) (F0 m 9 ls [])) (hf : M_digest_9 rc9 x1 w td fa fb hh = some (r0, hh_z)) (Y : Wd Γ w0 s (WM Γ Am w kp tx td rf fa fb ap sp iw ig nu lst lwo hh) H locs) (hl : lv_has ls 3 [(0, .ref (Am 0)), (1, .int x1)]) : W p l e rmM_digest s m args below meth c H locs 0 0 (EL Γ below args s w0 (WM Γ Am w kp tx td rf fa fb ap sp iw ig nu lst lwo hh_z) r0) (F0 m 9 ls []) := by
  have hx := X.1
  have hb := X.2.1
  refine lv_iload_n hx hb dX12_digest_9 rfl (lv_at hl 1 rfl) ?_
  refine lv_bipush (v := (7 : Int32)) hx hb dX12_digest_10 (by decide) ?_
  refine lv_icmp_ge (tgt := 31) hx hb dX12_digest_12 (by decide) (fun c_1 => ?_) (fun c_1 => ?_)
  · have hf := ite_t hf c_1
    refine lv_iconst (v := (0 : Int32)) hx hb dX12_digest_31 (by decide) ?_
    refine lv_istore_n (lv' := [(1, .int (0 : Int32)), (0, .ref (Am 0))]) hx hb dX12_digest_32 rfl hl (by decide) rfl (fun ls hl => ?_)
    exact lM_digest_33 X _ _ _ _ _ _ _ hf _ _ _ Y (lv_sub hl [1, 0] rfl)
  · have hf := ite_f hf c_1
    refine lv_aload_n hx hb dX12_digest_15 rfl (lv_at hl 0 rfl) ?_
    refine lv_aload_n hx hb dX12_digest_16 rfl (lv_at hl 0 rfl) ?_
    refine lv_iload_n hx hb dX12_digest_17 rfl (lv_at hl 1 rfl) ?_
    obtain ⟨r_2, ho_6, hf⟩ := bd1_some hf
    refine t_i Y (bkS Y) (r_V (As := [.int x1]) (rest := [.ref (Am 0)]) X (c_preS X Y) (cM_countOf ho_6) (cwX12_238 X (by decide)) (va_recv X.K Y.1 (q := (RX12, TX12, 15)) (q0 := 0) (ci := 12) rfl rfl) rfl hl.1 (Nat.le_of_ble_eq_true rfl) rfl dX12_digest_18 ⟨Nat.zero_le _, Nat.zero_le _⟩) (fun H locs Y => ?_)
    refine lv_i2l (v := r_2.toInt64) hx hb dX12_digest_21 rfl ?_
    obtain ⟨hh_3, ho_5, hf⟩ := bd1_some hf
    refine t_v Y (bkS Y) (r_V (As := [.long r_2.toInt64]) (rest := []) X (c_preS X Y) (cM_mix ho_5) (cwX12_248 X (by decide)) (va_recv X.K Y.1 (q := (RX12, TX12, 15)) (q0 := 0) (ci := 12) rfl rfl) rfl hl.1 (Nat.le_of_ble_eq_true rfl) rfl dX12_digest_22 ⟨Nat.zero_le _, Nat.zero_le _⟩) (fun H locs Y => ?_)
    obtain ⟨x1_4, e_x1_4⟩ : ∃ z : Int32, z = (x1 + (1 : Int32)) := ⟨_, rfl⟩
    have hf := bnd_eq hf e_x1_4
    refine lv_iinc (v := x1_4) (lv' := [(1, .int x1_4), (0, .ref (Am 0))]) hx hb dX12_digest_25 hl (k := 1) rfl (by rw [e_x1_4]; rfl) (by decide) rfl (fun ls hl => ?_)
    refine lv_goto (tgt := 9) hx hb dX12_digest_28 (by decide) ?_
    exact h9 _ _ _ _ _ _ hf _ _ _ Y (lv_sub hl [1, 0] rfl)
def M_digest_L9 : Nat → Int32 → (Nat → Int32) → Int32 → Int64 → Int64 → Int64 → Option (Int64 × Int64)
  | 0, _, _, _, _, _, _ => none
  | n + 1, x1, w, td, fa, fb, hh => M_digest_9 (M_digest_L9 n) x1 w td fa fb hh
theorem lM_digest_9 {Am : Nat → Nat} {kp : Nat → Int32} {tx : Nat → Int32} {rf : Nat → Int32} {ap : Int32} {sp : Int32} {iw : Int32} {ig : Int32} {nu : Nat → Int32} {lst : Int32} {lwo : Int32} {hh_z : Int64} {r0 : Int64} (X : Cx Γ p s m args meth c RX12 cX12_digest 3 (some .long) w0) : ∀ (n : Nat) (x1 : Int32) (w : Nat → Int32) (td : Int32) (fa : Int64) (fb : Int64) (hh : Int64), M_digest_L9 n x1 w td fa fb hh = some (r0, hh_z) → ∀ (H : Heap) (locs : List Loc) (ls : Array Slot), Wd Γ w0 s (WM Γ Am w kp tx td rf fa fb ap sp iw ig nu lst lwo hh) H locs → lv_has ls 3 [(0, .ref (Am 0)), (1, .int x1)] → W p l e rmM_digest s m args below meth c H locs 0 0 (EL Γ below args s w0 (WM Γ Am w kp tx td rf fa fb ap sp iw ig nu lst lwo hh_z) r0) (F0 m 9 ls []) := by
  intro n
  induction n with
  | zero => intro x1 w td fa fb hh hf; cases hf
  | succ n ih => intro x1 w td fa fb hh hf H locs ls Y hl; exact bM_digest_9 X ih hf Y hl
def M_digest (w : Nat → Int32) (td : Int32) (fa : Int64) (fb : Int64) (hh : Int64) : Option (Int64 × Int64) := M_digest_L9 FU (0 : Int32) w td fa fb (1117 : Int64)
set_option maxHeartbeats 4000000 in
set_option maxRecDepth 100000 in
theorem bM_digest_e {Am : Nat → Nat} {w : Nat → Int32} {kp : Nat → Int32} {tx : Nat → Int32} {td : Int32} {rf : Nat → Int32} {fa : Int64} {fb : Int64} {ap : Int32} {sp : Int32} {iw : Int32} {ig : Int32} {nu : Nat → Int32} {lst : Int32} {lwo : Int32} {hh : Int64} {hh_z : Int64} {r0 : Int64} (X : Cx Γ p s m args meth c RX12 cX12_digest 3 (some .long) w0) (hf : M_digest w td fa fb hh = some (r0, hh_z)) (Y : Wd Γ w0 s (WM Γ Am w kp tx td rf fa fb ap sp iw ig nu lst lwo hh) H locs) (hl : lv_has ls 3 [(0, .ref (Am 0))]) : W p l e rmM_digest s m args below meth c H locs 0 0 (EL Γ below args s w0 (WM Γ Am w kp tx td rf fa fb ap sp iw ig nu lst lwo hh_z) r0) (F0 m 0 ls []) := by
  have hx := X.1
  have hb := X.2.1
  refine lv_aload_n hx hb dX12_digest_0 rfl (lv_at hl 0 rfl) ?_
  refine lv_ldc2 (v := (1117 : Int64)) hx hb X.2.2.2.1 (X.2.2.2.2.1 _ kw195) dX12_digest_1 ?_
  refine pfX12_243 X Y 0 rfl rfl rfl (Nat.le_of_ble_eq_true rfl) (ws' := (WM Γ Am w kp tx td rf fa fb ap sp iw ig nu lst lwo (1117 : Int64))) rfl dX12_digest_4 (fun H locs Y => ?_)
  refine lv_iconst (v := (0 : Int32)) hx hb dX12_digest_7 (by decide) ?_
  refine lv_istore_n (lv' := [(1, .int (0 : Int32)), (0, .ref (Am 0))]) hx hb dX12_digest_8 rfl hl (by decide) rfl (fun ls hl => ?_)
  exact lM_digest_9 X _ _ _ _ _ _ _ hf _ _ _ Y (lv_sub hl [1, 0] rfl)
theorem cM_digest {l : Launch} {Γ : Gm} {Am : Nat → Nat} {w : Nat → Int32} {kp : Nat → Int32} {tx : Nat → Int32} {td : Int32} {rf : Nat → Int32} {fa : Int64} {fb : Int64} {ap : Int32} {sp : Int32} {iw : Int32} {ig : Int32} {nu : Nat → Int32} {lst : Int32} {lwo : Int32} {hh : Int64} {hh_z : Int64} {r0 : Int64} (h : M_digest w td fa fb hh = some (r0, hh_z)) : CL l Γ yX12_digest (Cond.code yX12_digest cX12_digest 3 (some .long) :: GW) rmM_digest [.ref (Am 0)] (WM Γ Am w kp tx td rf fa fb ap sp iw ig nu lst lwo hh) (WM Γ Am w kp tx td rf fa fb ap sp iw ig nu lst lwo hh_z) r0 := ofBody (Qc := QcL Γ _ _ r0) (by decide) (Nat.le_of_ble_eq_true rfl) (fun p e s m below meth c ls _ X Y hl => bM_digest_e X h Y hl)
end
