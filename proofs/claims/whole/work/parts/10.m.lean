section
variable {p : Program} {l : Launch} {e : Env} {R : Room} {s : State} {m : MethodId} {args : Array Value} {below : List Frame} {meth : Method} {c : Code} {H : Heap} {locs : List Loc} {Q : State → Prop} {cells slots : Nat}
variable {Γ : Gm} {own : String} {cc : ByteArray} {nL : Nat} {ret : Option FieldType} {w0 ws ws' : va_W} {pc : Nat} {ls : Array Slot} {rest : List Value} {a : Nat}
def rmM_in : Room := { frames := 0, cells := 0, slots := 0, locals := 0 }
def M_in (x0 : Int64) (x2 : Int64) (x4 : Int64) : Option (Int32) := if (lg_cmp x0 x2) < 0 then (some (0 : Int32)) else (if 0 < (lg_cmp x0 x4) then (some (0 : Int32)) else (some (1 : Int32)))
set_option maxHeartbeats 4000000 in
set_option maxRecDepth 100000 in
theorem bM_in_e {r0 : Int32} {x0 : Int64} {x2 : Int64} {x4 : Int64} (X : Cx Γ p s m args meth c RX12 cX12_in 6 (some .boolean) w0) (hf : M_in x0 x2 x4 = some r0) (Y : Wd Γ w0 s ([] : va_W) H locs) (hl : lv_has ls 6 [(0, .long x0), (2, .long x2), (4, .long x4)]) : W p l e rmM_in s m args below meth c H locs 0 0 (EI Γ below args s w0 ([] : va_W) r0) (F0 m 0 ls []) := by
  have hx := X.1
  have hb := X.2.1
  refine lv_lload_n hx hb dX12_in_0 rfl (lv_at hl 0 rfl) ?_
  refine lv_lload_n hx hb dX12_in_1 rfl (lv_at hl 1 rfl) ?_
  refine W.lcmp hx hb dX12_in_2 ?_
  refine lv_if_lt (tgt := 17) hx hb dX12_in_3 (by decide) (fun c_1 => ?_) (fun c_1 => ?_)
  · have hf := ite_t hf c_1
    refine lv_iconst (v := (0 : Int32)) hx hb dX12_in_17 (by decide) ?_
    have e90 := Option.some.inj hf
    subst e90
    exact x_zret X Y rfl dX12_in_18
  · have hf := ite_f hf c_1
    refine lv_lload_n hx hb dX12_in_6 rfl (lv_at hl 0 rfl) ?_
    refine lv_lload hx hb dX12_in_7 (lv_at hl 2 rfl) ?_
    refine W.lcmp hx hb dX12_in_9 ?_
    refine lv_if_gt (tgt := 17) hx hb dX12_in_10 (by decide) (fun c_2 => ?_) (fun c_2 => ?_)
    · have hf := ite_t hf c_2
      refine lv_iconst (v := (0 : Int32)) hx hb dX12_in_17 (by decide) ?_
      have e90 := Option.some.inj hf
      subst e90
      exact x_zret X Y rfl dX12_in_18
    · have hf := ite_f hf c_2
      refine lv_iconst (v := (1 : Int32)) hx hb dX12_in_13 (by decide) ?_
      refine lv_goto (tgt := 18) hx hb dX12_in_14 (by decide) ?_
      have e90 := Option.some.inj hf
      subst e90
      exact x_zret X Y rfl dX12_in_18
theorem cM_in {l : Launch} {Γ : Gm} {r0 : Int32} {x0 : Int64} {x2 : Int64} {x4 : Int64} (h : M_in x0 x2 x4 = some r0) : CI l Γ yX12_in (Cond.code yX12_in cX12_in 6 (some .boolean) :: GW) rmM_in [.long x0, .long x2, .long x4] ([] : va_W) ([] : va_W) r0 := ofBody (Qc := QcI Γ _ _ r0) (by decide) (Nat.le_of_ble_eq_true rfl) (fun p e s m below meth c ls _ X Y hl => bM_in_e X h Y hl)
def rmM_has : Room := { frames := 0, cells := 0, slots := 0, locals := 0 }
def M_has (x0 : Int32) (x1 : Int32) : Option (Int32) := if ((x0 >>> (x1 &&& 31)) &&& (1 : Int32)) = (1 : Int32) then (some (1 : Int32)) else (some (0 : Int32))
set_option maxHeartbeats 4000000 in
set_option maxRecDepth 100000 in
theorem bM_has_e {r0 : Int32} {x0 : Int32} {x1 : Int32} (X : Cx Γ p s m args meth c RX12 cX12_has 2 (some .boolean) w0) (hf : M_has x0 x1 = some r0) (Y : Wd Γ w0 s ([] : va_W) H locs) (hl : lv_has ls 2 [(0, .int x0), (1, .int x1)]) : W p l e rmM_has s m args below meth c H locs 0 0 (EI Γ below args s w0 ([] : va_W) r0) (F0 m 0 ls []) := by
  have hx := X.1
  have hb := X.2.1
  refine lv_iload_n hx hb dX12_has_0 rfl (lv_at hl 0 rfl) ?_
  refine lv_iload_n hx hb dX12_has_1 rfl (lv_at hl 1 rfl) ?_
  refine lv_ishr hx hb dX12_has_2 ?_
  refine lv_iconst (v := (1 : Int32)) hx hb dX12_has_3 (by decide) ?_
  refine lv_iand hx hb dX12_has_4 ?_
  refine lv_iconst (v := (1 : Int32)) hx hb dX12_has_5 (by decide) ?_
  refine lv_icmp_ne (tgt := 13) hx hb dX12_has_6 (by decide) (fun c_1 => ?_) (fun c_1 => ?_)
  · have hf := ite_f hf c_1
    refine lv_iconst (v := (0 : Int32)) hx hb dX12_has_13 (by decide) ?_
    have e90 := Option.some.inj hf
    subst e90
    exact x_zret X Y rfl dX12_has_14
  · have hf := ite_t hf c_1
    refine lv_iconst (v := (1 : Int32)) hx hb dX12_has_9 (by decide) ?_
    refine lv_goto (tgt := 14) hx hb dX12_has_10 (by decide) ?_
    have e90 := Option.some.inj hf
    subst e90
    exact x_zret X Y rfl dX12_has_14
theorem cM_has {l : Launch} {Γ : Gm} {r0 : Int32} {x0 : Int32} {x1 : Int32} (h : M_has x0 x1 = some r0) : CI l Γ yX12_has (Cond.code yX12_has cX12_has 2 (some .boolean) :: GW) rmM_has [.int x0, .int x1] ([] : va_W) ([] : va_W) r0 := ofBody (Qc := QcI Γ _ _ r0) (by decide) (Nat.le_of_ble_eq_true rfl) (fun p e s m below meth c ls _ X Y hl => bM_has_e X h Y hl)
def rmM_ones : Room := { frames := 0, cells := 0, slots := 0, locals := 0 }
def M_ones_4 (rc4 : Int32 → Int32 → Int32 → Option (Int32)) (x0 : Int32) (x1 : Int32) (x2 : Int32) : Option (Int32) := if (8 : Int32) ≤ x2 then (some x1) else (bnd (x1 + ((x0 >>> (x2 &&& 31)) &&& (1 : Int32))) (fun (x1_2 : Int32) => bnd (x2 + (1 : Int32)) (fun (x2_3 : Int32) => rc4 x0 x1_2 x2_3)))
set_option maxHeartbeats 4000000 in
set_option maxRecDepth 100000 in
theorem bM_ones_4 {r0 : Int32} {x0 : Int32} {x1 : Int32} {x2 : Int32} {rc4 : Int32 → Int32 → Int32 → Option (Int32)} (X : Cx Γ p s m args meth c RX12 cX12_ones 3 (some .int) w0) (h4 : ∀ (x0 : Int32) (x1 : Int32) (x2 : Int32), rc4 x0 x1 x2 = some r0 → ∀ (H : Heap) (locs : List Loc) (ls : Array Slot), Wd Γ w0 s ([] : va_W) H locs → lv_has ls 3 [(0, .int x0), (1, .int x1), (2, .int x2)] → W p l e rmM_ones s m args below meth c H locs 0 0 (EI Γ below args s w0 ([] : va_W) r0) (F0 m 4 ls [])) (hf : M_ones_4 rc4 x0 x1 x2 = some r0) (Y : Wd Γ w0 s ([] : va_W) H locs) (hl : lv_has ls 3 [(0, .int x0), (1, .int x1), (2, .int x2)]) : W p l e rmM_ones s m args below meth c H locs 0 0 (EI Γ below args s w0 ([] : va_W) r0) (F0 m 4 ls []) := by
  have hx := X.1
  have hb := X.2.1
  refine lv_iload_n hx hb dX12_ones_4 rfl (lv_at hl 2 rfl) ?_
  refine lv_bipush (v := (8 : Int32)) hx hb dX12_ones_5 (by decide) ?_
  refine lv_icmp_ge (tgt := 24) hx hb dX12_ones_7 (by decide) (fun c_1 => ?_) (fun c_1 => ?_)
  · have hf := ite_t hf c_1
    refine lv_iload_n hx hb dX12_ones_24 rfl (lv_at hl 1 rfl) ?_
    have e90 := Option.some.inj hf
    subst e90
    exact x_iret X Y dX12_ones_25
  · have hf := ite_f hf c_1
    refine lv_iload_n hx hb dX12_ones_10 rfl (lv_at hl 1 rfl) ?_
    refine lv_iload_n hx hb dX12_ones_11 rfl (lv_at hl 0 rfl) ?_
    refine lv_iload_n hx hb dX12_ones_12 rfl (lv_at hl 2 rfl) ?_
    refine lv_ishr hx hb dX12_ones_13 ?_
    refine lv_iconst (v := (1 : Int32)) hx hb dX12_ones_14 (by decide) ?_
    refine lv_iand hx hb dX12_ones_15 ?_
    refine lv_iadd hx hb dX12_ones_16 ?_
    refine lv_topi (fun x1_2 e_x1_2 => ?_)
    have hf := bnd_eq hf e_x1_2
    refine lv_istore_n (lv' := [(1, .int x1_2), (0, .int x0), (2, .int x2)]) hx hb dX12_ones_17 rfl hl (by decide) rfl (fun ls hl => ?_)
    obtain ⟨x2_3, e_x2_3⟩ : ∃ z : Int32, z = (x2 + (1 : Int32)) := ⟨_, rfl⟩
    have hf := bnd_eq hf e_x2_3
    refine lv_iinc (v := x2_3) (lv' := [(2, .int x2_3), (1, .int x1_2), (0, .int x0)]) hx hb dX12_ones_18 hl (k := 2) rfl (by rw [e_x2_3]; rfl) (by decide) rfl (fun ls hl => ?_)
    refine lv_goto (tgt := 4) hx hb dX12_ones_21 (by decide) ?_
    exact h4 _ _ _ hf _ _ _ Y (lv_sub hl [2, 1, 0] rfl)
def M_ones_L4 : Nat → Int32 → Int32 → Int32 → Option (Int32)
  | 0, _, _, _ => none
  | n + 1, x0, x1, x2 => M_ones_4 (M_ones_L4 n) x0 x1 x2
theorem lM_ones_4 {r0 : Int32} (X : Cx Γ p s m args meth c RX12 cX12_ones 3 (some .int) w0) : ∀ (n : Nat) (x0 : Int32) (x1 : Int32) (x2 : Int32), M_ones_L4 n x0 x1 x2 = some r0 → ∀ (H : Heap) (locs : List Loc) (ls : Array Slot), Wd Γ w0 s ([] : va_W) H locs → lv_has ls 3 [(0, .int x0), (1, .int x1), (2, .int x2)] → W p l e rmM_ones s m args below meth c H locs 0 0 (EI Γ below args s w0 ([] : va_W) r0) (F0 m 4 ls []) := by
  intro n
  induction n with
  | zero => intro x0 x1 x2 hf; cases hf
  | succ n ih => intro x0 x1 x2 hf H locs ls Y hl; exact bM_ones_4 X ih hf Y hl
def M_ones (x0 : Int32) : Option (Int32) := M_ones_L4 FU x0 (0 : Int32) (0 : Int32)
set_option maxHeartbeats 4000000 in
set_option maxRecDepth 100000 in
theorem bM_ones_e {r0 : Int32} {x0 : Int32} (X : Cx Γ p s m args meth c RX12 cX12_ones 3 (some .int) w0) (hf : M_ones x0 = some r0) (Y : Wd Γ w0 s ([] : va_W) H locs) (hl : lv_has ls 3 [(0, .int x0)]) : W p l e rmM_ones s m args below meth c H locs 0 0 (EI Γ below args s w0 ([] : va_W) r0) (F0 m 0 ls []) := by
  have hx := X.1
  have hb := X.2.1
  refine lv_iconst (v := (0 : Int32)) hx hb dX12_ones_0 (by decide) ?_
  refine lv_istore_n (lv' := [(1, .int (0 : Int32)), (0, .int x0)]) hx hb dX12_ones_1 rfl hl (by decide) rfl (fun ls hl => ?_)
  refine lv_iconst (v := (0 : Int32)) hx hb dX12_ones_2 (by decide) ?_
  refine lv_istore_n (lv' := [(2, .int (0 : Int32)), (1, .int (0 : Int32)), (0, .int x0)]) hx hb dX12_ones_3 rfl hl (by decide) rfl (fun ls hl => ?_)
  exact lM_ones_4 X _ _ _ _ hf _ _ _ Y (lv_sub hl [2, 1, 0] rfl)
theorem cM_ones {l : Launch} {Γ : Gm} {r0 : Int32} {x0 : Int32} (h : M_ones x0 = some r0) : CI l Γ yX12_ones (Cond.code yX12_ones cX12_ones 3 (some .int) :: GW) rmM_ones [.int x0] ([] : va_W) ([] : va_W) r0 := ofBody (Qc := QcI Γ _ _ r0) (by decide) (Nat.le_of_ble_eq_true rfl) (fun p e s m below meth c ls _ X Y hl => bM_ones_e X h Y hl)
theorem gfX12_20 (X : Cx Γ p s m args meth c RX12 cc nL ret w0) (Y : Wd Γ w0 s ws H locs) {v : Value} (q0 : Nat) {fs : List Value} (he : ws[q0]? = some (a, .inr (12, fs))) (hv : fs[4]? = some v) (hdg : decode cc pc = .ok (.getfield 20, 3)) (kk : W p l e R s m args below meth c H locs cells slots Q (F0 m (pc + 3) ls (v :: rest))) : W p l e R s m args below meth c H locs cells slots Q (F0 m pc ls (.ref a :: rest)) := x_get X Y iX12 rfl 4 (by decide) rfl kw0 q0 he hv hdg kk
def rmM_bad : Room := { frames := 0, cells := 0, slots := 0, locals := 0 }
def M_bad (rf : Nat → Int32) : Option (Int32 × (Nat → Int32)) := bnd ((rf 0) + (1 : Int32)) (fun (v_1 : Int32) => bnd (upd rf 0 v_1) (fun (rf_2 : Nat → Int32) => some ((-2 : Int32), rf_2)))
set_option maxHeartbeats 4000000 in
set_option maxRecDepth 100000 in
theorem bM_bad_e {Am : Nat → Nat} {w : Nat → Int32} {kp : Nat → Int32} {tx : Nat → Int32} {td : Int32} {rf : Nat → Int32} {fa : Int64} {fb : Int64} {ap : Int32} {sp : Int32} {iw : Int32} {ig : Int32} {nu : Nat → Int32} {lst : Int32} {lwo : Int32} {hh : Int64} {rf_z : Nat → Int32} {r0 : Int32} (X : Cx Γ p s m args meth c RX12 cX12_bad 1 (some .int) w0) (hf : M_bad rf = some (r0, rf_z)) (Y : Wd Γ w0 s (WM Γ Am w kp tx td rf fa fb ap sp iw ig nu lst lwo hh) H locs) (hl : lv_has ls 1 [(0, .ref (Am 0))]) : W p l e rmM_bad s m args below meth c H locs 0 0 (EI Γ below args s w0 (WM Γ Am w kp tx td rf_z fa fb ap sp iw ig nu lst lwo hh) r0) (F0 m 0 ls []) := by
  have hx := X.1
  have hb := X.2.1
  refine lv_aload_n hx hb dX12_bad_0 rfl (lv_at hl 0 rfl) ?_
  refine gfX12_20 X Y (v := .ref (Am 4)) 0 rfl rfl dX12_bad_1 ?_
  refine lv_iconst (v := (0 : Int32)) hx hb dX12_bad_4 (by decide) ?_
  refine lv_dup2_11 hx hb dX12_bad_5 rfl rfl ?_
  refine x_iald X Y 4 rfl (j := 0) rfl rfl dX12_bad_6 ?_
  refine lv_iconst (v := (1 : Int32)) hx hb dX12_bad_7 (by decide) ?_
  refine lv_iadd hx hb dX12_bad_8 ?_
  refine lv_topi (fun v_1 e_v_1 => ?_)
  have hf := bnd_eq hf e_v_1
  obtain ⟨rf_2, e_rf_2⟩ : ∃ z : Nat → Int32, z = (upd rf 0 v_1) := ⟨_, rfl⟩
  have hf := bnd_eq hf e_rf_2
  refine x_iast X Y 4 rfl (j := 0) rfl rfl (ws' := (WM Γ Am w kp tx td rf_2 fa fb ap sp iw ig nu lst lwo hh)) (by subst e_rf_2; rfl) dX12_bad_9 (fun H locs Y => ?_)
  refine lv_bipush (v := (-2 : Int32)) hx hb dX12_bad_10 (by decide) ?_
  obtain ⟨e90, e91⟩ := sj2 hf
  subst e90
  subst e91
  exact x_iret X Y dX12_bad_12
theorem cM_bad {l : Launch} {Γ : Gm} {Am : Nat → Nat} {w : Nat → Int32} {kp : Nat → Int32} {tx : Nat → Int32} {td : Int32} {rf : Nat → Int32} {fa : Int64} {fb : Int64} {ap : Int32} {sp : Int32} {iw : Int32} {ig : Int32} {nu : Nat → Int32} {lst : Int32} {lwo : Int32} {hh : Int64} {rf_z : Nat → Int32} {r0 : Int32} (h : M_bad rf = some (r0, rf_z)) : CI l Γ yX12_bad (Cond.code yX12_bad cX12_bad 1 (some .int) :: GW) rmM_bad [.ref (Am 0)] (WM Γ Am w kp tx td rf fa fb ap sp iw ig nu lst lwo hh) (WM Γ Am w kp tx td rf_z fa fb ap sp iw ig nu lst lwo hh) r0 := ofBody (Qc := QcI Γ _ _ r0) (by decide) (Nat.le_of_ble_eq_true rfl) (fun p e s m below meth c ls _ X Y hl => bM_bad_e X h Y hl)
def rmM_badAs : Room := { frames := 0, cells := 0, slots := 0, locals := 0 }
def M_badAs (x1 : Int32) (rf : Nat → Int32) : Option (Int32 × (Nat → Int32)) := bnd ((rf 0) + (1 : Int32)) (fun (v_1 : Int32) => bnd (upd rf 0 v_1) (fun (rf_2 : Nat → Int32) => some (x1, rf_2)))
set_option maxHeartbeats 4000000 in
set_option maxRecDepth 100000 in
theorem bM_badAs_e {Am : Nat → Nat} {w : Nat → Int32} {kp : Nat → Int32} {tx : Nat → Int32} {td : Int32} {rf : Nat → Int32} {fa : Int64} {fb : Int64} {ap : Int32} {sp : Int32} {iw : Int32} {ig : Int32} {nu : Nat → Int32} {lst : Int32} {lwo : Int32} {hh : Int64} {rf_z : Nat → Int32} {r0 : Int32} {x1 : Int32} (X : Cx Γ p s m args meth c RX12 cX12_badAs 2 (some .int) w0) (hf : M_badAs x1 rf = some (r0, rf_z)) (Y : Wd Γ w0 s (WM Γ Am w kp tx td rf fa fb ap sp iw ig nu lst lwo hh) H locs) (hl : lv_has ls 2 [(0, .ref (Am 0)), (1, .int x1)]) : W p l e rmM_badAs s m args below meth c H locs 0 0 (EI Γ below args s w0 (WM Γ Am w kp tx td rf_z fa fb ap sp iw ig nu lst lwo hh) r0) (F0 m 0 ls []) := by
  have hx := X.1
  have hb := X.2.1
  refine lv_aload_n hx hb dX12_badAs_0 rfl (lv_at hl 0 rfl) ?_
  refine gfX12_20 X Y (v := .ref (Am 4)) 0 rfl rfl dX12_badAs_1 ?_
  refine lv_iconst (v := (0 : Int32)) hx hb dX12_badAs_4 (by decide) ?_
  refine lv_dup2_11 hx hb dX12_badAs_5 rfl rfl ?_
  refine x_iald X Y 4 rfl (j := 0) rfl rfl dX12_badAs_6 ?_
  refine lv_iconst (v := (1 : Int32)) hx hb dX12_badAs_7 (by decide) ?_
  refine lv_iadd hx hb dX12_badAs_8 ?_
  refine lv_topi (fun v_1 e_v_1 => ?_)
  have hf := bnd_eq hf e_v_1
  obtain ⟨rf_2, e_rf_2⟩ : ∃ z : Nat → Int32, z = (upd rf 0 v_1) := ⟨_, rfl⟩
  have hf := bnd_eq hf e_rf_2
  refine x_iast X Y 4 rfl (j := 0) rfl rfl (ws' := (WM Γ Am w kp tx td rf_2 fa fb ap sp iw ig nu lst lwo hh)) (by subst e_rf_2; rfl) dX12_badAs_9 (fun H locs Y => ?_)
  refine lv_iload_n hx hb dX12_badAs_10 rfl (lv_at hl 1 rfl) ?_
  obtain ⟨e90, e91⟩ := sj2 hf
  subst e90
  subst e91
  exact x_iret X Y dX12_badAs_11
theorem cM_badAs {l : Launch} {Γ : Gm} {Am : Nat → Nat} {w : Nat → Int32} {kp : Nat → Int32} {tx : Nat → Int32} {td : Int32} {rf : Nat → Int32} {fa : Int64} {fb : Int64} {ap : Int32} {sp : Int32} {iw : Int32} {ig : Int32} {nu : Nat → Int32} {lst : Int32} {lwo : Int32} {hh : Int64} {rf_z : Nat → Int32} {r0 : Int32} {x1 : Int32} (h : M_badAs x1 rf = some (r0, rf_z)) : CI l Γ yX12_badAs (Cond.code yX12_badAs cX12_badAs 2 (some .int) :: GW) rmM_badAs [.ref (Am 0), .int x1] (WM Γ Am w kp tx td rf fa fb ap sp iw ig nu lst lwo hh) (WM Γ Am w kp tx td rf_z fa fb ap sp iw ig nu lst lwo hh) r0 := ofBody (Qc := QcI Γ _ _ r0) (by decide) (Nat.le_of_ble_eq_true rfl) (fun p e s m below meth c ls _ X Y hl => bM_badAs_e X h Y hl)
def rmM_no : Room := { frames := 0, cells := 0, slots := 0, locals := 0 }
def M_no (rf : Nat → Int32) : Option (Int32 × (Nat → Int32)) := bnd ((rf 1) + (1 : Int32)) (fun (v_1 : Int32) => bnd (upd rf 1 v_1) (fun (rf_2 : Nat → Int32) => some ((-3 : Int32), rf_2)))
set_option maxHeartbeats 4000000 in
set_option maxRecDepth 100000 in
theorem bM_no_e {Am : Nat → Nat} {w : Nat → Int32} {kp : Nat → Int32} {tx : Nat → Int32} {td : Int32} {rf : Nat → Int32} {fa : Int64} {fb : Int64} {ap : Int32} {sp : Int32} {iw : Int32} {ig : Int32} {nu : Nat → Int32} {lst : Int32} {lwo : Int32} {hh : Int64} {rf_z : Nat → Int32} {r0 : Int32} (X : Cx Γ p s m args meth c RX12 cX12_no 1 (some .int) w0) (hf : M_no rf = some (r0, rf_z)) (Y : Wd Γ w0 s (WM Γ Am w kp tx td rf fa fb ap sp iw ig nu lst lwo hh) H locs) (hl : lv_has ls 1 [(0, .ref (Am 0))]) : W p l e rmM_no s m args below meth c H locs 0 0 (EI Γ below args s w0 (WM Γ Am w kp tx td rf_z fa fb ap sp iw ig nu lst lwo hh) r0) (F0 m 0 ls []) := by
  have hx := X.1
  have hb := X.2.1
  refine lv_aload_n hx hb dX12_no_0 rfl (lv_at hl 0 rfl) ?_
  refine gfX12_20 X Y (v := .ref (Am 4)) 0 rfl rfl dX12_no_1 ?_
  refine lv_iconst (v := (1 : Int32)) hx hb dX12_no_4 (by decide) ?_
  refine lv_dup2_11 hx hb dX12_no_5 rfl rfl ?_
  refine x_iald X Y 4 rfl (j := 1) rfl rfl dX12_no_6 ?_
  refine lv_iconst (v := (1 : Int32)) hx hb dX12_no_7 (by decide) ?_
  refine lv_iadd hx hb dX12_no_8 ?_
  refine lv_topi (fun v_1 e_v_1 => ?_)
  have hf := bnd_eq hf e_v_1
  obtain ⟨rf_2, e_rf_2⟩ : ∃ z : Nat → Int32, z = (upd rf 1 v_1) := ⟨_, rfl⟩
  have hf := bnd_eq hf e_rf_2
  refine x_iast X Y 4 rfl (j := 1) rfl rfl (ws' := (WM Γ Am w kp tx td rf_2 fa fb ap sp iw ig nu lst lwo hh)) (by subst e_rf_2; rfl) dX12_no_9 (fun H locs Y => ?_)
  refine lv_bipush (v := (-3 : Int32)) hx hb dX12_no_10 (by decide) ?_
  obtain ⟨e90, e91⟩ := sj2 hf
  subst e90
  subst e91
  exact x_iret X Y dX12_no_12
theorem cM_no {l : Launch} {Γ : Gm} {Am : Nat → Nat} {w : Nat → Int32} {kp : Nat → Int32} {tx : Nat → Int32} {td : Int32} {rf : Nat → Int32} {fa : Int64} {fb : Int64} {ap : Int32} {sp : Int32} {iw : Int32} {ig : Int32} {nu : Nat → Int32} {lst : Int32} {lwo : Int32} {hh : Int64} {rf_z : Nat → Int32} {r0 : Int32} (h : M_no rf = some (r0, rf_z)) : CI l Γ yX12_no (Cond.code yX12_no cX12_no 1 (some .int) :: GW) rmM_no [.ref (Am 0)] (WM Γ Am w kp tx td rf fa fb ap sp iw ig nu lst lwo hh) (WM Γ Am w kp tx td rf_z fa fb ap sp iw ig nu lst lwo hh) r0 := ofBody (Qc := QcI Γ _ _ r0) (by decide) (Nat.le_of_ble_eq_true rfl) (fun p e s m below meth c ls _ X Y hl => bM_no_e X h Y hl)
def rmM_full : Room := { frames := 0, cells := 0, slots := 0, locals := 0 }
def M_full (rf : Nat → Int32) : Option (Int32 × (Nat → Int32)) := bnd ((rf 2) + (1 : Int32)) (fun (v_1 : Int32) => bnd (upd rf 2 v_1) (fun (rf_2 : Nat → Int32) => some ((-4 : Int32), rf_2)))
set_option maxHeartbeats 4000000 in
set_option maxRecDepth 100000 in
theorem bM_full_e {Am : Nat → Nat} {w : Nat → Int32} {kp : Nat → Int32} {tx : Nat → Int32} {td : Int32} {rf : Nat → Int32} {fa : Int64} {fb : Int64} {ap : Int32} {sp : Int32} {iw : Int32} {ig : Int32} {nu : Nat → Int32} {lst : Int32} {lwo : Int32} {hh : Int64} {rf_z : Nat → Int32} {r0 : Int32} (X : Cx Γ p s m args meth c RX12 cX12_full 1 (some .int) w0) (hf : M_full rf = some (r0, rf_z)) (Y : Wd Γ w0 s (WM Γ Am w kp tx td rf fa fb ap sp iw ig nu lst lwo hh) H locs) (hl : lv_has ls 1 [(0, .ref (Am 0))]) : W p l e rmM_full s m args below meth c H locs 0 0 (EI Γ below args s w0 (WM Γ Am w kp tx td rf_z fa fb ap sp iw ig nu lst lwo hh) r0) (F0 m 0 ls []) := by
  have hx := X.1
  have hb := X.2.1
  refine lv_aload_n hx hb dX12_full_0 rfl (lv_at hl 0 rfl) ?_
  refine gfX12_20 X Y (v := .ref (Am 4)) 0 rfl rfl dX12_full_1 ?_
  refine lv_iconst (v := (2 : Int32)) hx hb dX12_full_4 (by decide) ?_
  refine lv_dup2_11 hx hb dX12_full_5 rfl rfl ?_
  refine x_iald X Y 4 rfl (j := 2) rfl rfl dX12_full_6 ?_
  refine lv_iconst (v := (1 : Int32)) hx hb dX12_full_7 (by decide) ?_
  refine lv_iadd hx hb dX12_full_8 ?_
  refine lv_topi (fun v_1 e_v_1 => ?_)
  have hf := bnd_eq hf e_v_1
  obtain ⟨rf_2, e_rf_2⟩ : ∃ z : Nat → Int32, z = (upd rf 2 v_1) := ⟨_, rfl⟩
  have hf := bnd_eq hf e_rf_2
  refine x_iast X Y 4 rfl (j := 2) rfl rfl (ws' := (WM Γ Am w kp tx td rf_2 fa fb ap sp iw ig nu lst lwo hh)) (by subst e_rf_2; rfl) dX12_full_9 (fun H locs Y => ?_)
  refine lv_bipush (v := (-4 : Int32)) hx hb dX12_full_10 (by decide) ?_
  obtain ⟨e90, e91⟩ := sj2 hf
  subst e90
  subst e91
  exact x_iret X Y dX12_full_12
theorem cM_full {l : Launch} {Γ : Gm} {Am : Nat → Nat} {w : Nat → Int32} {kp : Nat → Int32} {tx : Nat → Int32} {td : Int32} {rf : Nat → Int32} {fa : Int64} {fb : Int64} {ap : Int32} {sp : Int32} {iw : Int32} {ig : Int32} {nu : Nat → Int32} {lst : Int32} {lwo : Int32} {hh : Int64} {rf_z : Nat → Int32} {r0 : Int32} (h : M_full rf = some (r0, rf_z)) : CI l Γ yX12_full (Cond.code yX12_full cX12_full 1 (some .int) :: GW) rmM_full [.ref (Am 0)] (WM Γ Am w kp tx td rf fa fb ap sp iw ig nu lst lwo hh) (WM Γ Am w kp tx td rf_z fa fb ap sp iw ig nu lst lwo hh) r0 := ofBody (Qc := QcI Γ _ _ r0) (by decide) (Nat.le_of_ble_eq_true rfl) (fun p e s m below meth c ls _ X Y hl => bM_full_e X h Y hl)
theorem gfX12_7 (X : Cx Γ p s m args meth c RX12 cc nL ret w0) (Y : Wd Γ w0 s ws H locs) {v : Value} (q0 : Nat) {fs : List Value} (he : ws[q0]? = some (a, .inr (12, fs))) (hv : fs[0]? = some v) (hdg : decode cc pc = .ok (.getfield 7, 3)) (kk : W p l e R s m args below meth c H locs cells slots Q (F0 m (pc + 3) ls (v :: rest))) : W p l e R s m args below meth c H locs cells slots Q (F0 m pc ls (.ref a :: rest)) := x_get X Y iX12 rfl 0 (by decide) rfl kw1 q0 he hv hdg kk
def rmM_copy : Room := { frames := 0, cells := 0, slots := 0, locals := 0 }
def M_copy_2 (rc2 : Int32 → Int32 → Int32 → (Nat → Int32) → Option ((Nat → Int32))) (x1 : Int32) (x2 : Int32) (x3 : Int32) (w : Nat → Int32) : Option ((Nat → Int32)) := if (80 : Int32) ≤ x3 then (some w) else (ck (inb (x1 + x3) 320) (bnd (w (x1 + x3).toNatClampNeg) (fun (v_3 : Int32) => ck (inb (x2 + x3) 320) (bnd (upd w (x2 + x3).toNatClampNeg v_3) (fun (w_4 : Nat → Int32) => bnd (x3 + (1 : Int32)) (fun (x3_6 : Int32) => rc2 x1 x2 x3_6 w_4))))))
set_option maxHeartbeats 4000000 in
set_option maxRecDepth 100000 in
theorem bM_copy_2 {Am : Nat → Nat} {w : Nat → Int32} {kp : Nat → Int32} {tx : Nat → Int32} {td : Int32} {rf : Nat → Int32} {fa : Int64} {fb : Int64} {ap : Int32} {sp : Int32} {iw : Int32} {ig : Int32} {nu : Nat → Int32} {lst : Int32} {lwo : Int32} {hh : Int64} {w_z : Nat → Int32} {x1 : Int32} {x2 : Int32} {x3 : Int32} {rc2 : Int32 → Int32 → Int32 → (Nat → Int32) → Option ((Nat → Int32))} (X : Cx Γ p s m args meth c RX12 cX12_copy 4 none w0) (h2 : ∀ (x1 : Int32) (x2 : Int32) (x3 : Int32) (w : Nat → Int32), rc2 x1 x2 x3 w = some w_z → ∀ (H : Heap) (locs : List Loc) (ls : Array Slot), Wd Γ w0 s (WM Γ Am w kp tx td rf fa fb ap sp iw ig nu lst lwo hh) H locs → lv_has ls 4 [(0, .ref (Am 0)), (1, .int x1), (2, .int x2), (3, .int x3)] → W p l e rmM_copy s m args below meth c H locs 0 0 (EV Γ below args s w0 (WM Γ Am w_z kp tx td rf fa fb ap sp iw ig nu lst lwo hh)) (F0 m 2 ls [])) (hf : M_copy_2 rc2 x1 x2 x3 w = some w_z) (Y : Wd Γ w0 s (WM Γ Am w kp tx td rf fa fb ap sp iw ig nu lst lwo hh) H locs) (hl : lv_has ls 4 [(0, .ref (Am 0)), (1, .int x1), (2, .int x2), (3, .int x3)]) : W p l e rmM_copy s m args below meth c H locs 0 0 (EV Γ below args s w0 (WM Γ Am w_z kp tx td rf fa fb ap sp iw ig nu lst lwo hh)) (F0 m 2 ls []) := by
  have hx := X.1
  have hb := X.2.1
  refine lv_iload_n hx hb dX12_copy_2 rfl (lv_at hl 3 rfl) ?_
  refine lv_bipush (v := (80 : Int32)) hx hb dX12_copy_3 (by decide) ?_
  refine lv_icmp_ge (tgt := 30) hx hb dX12_copy_5 (by decide) (fun c_1 => ?_) (fun c_1 => ?_)
  · have hf := ite_t hf c_1
    have e90 := Option.some.inj hf
    subst e90
    exact x_vret X Y dX12_copy_30
  · have hf := ite_f hf c_1
    refine lv_aload_n hx hb dX12_copy_8 rfl (lv_at hl 0 rfl) ?_
    refine gfX12_7 X Y (v := .ref (Am 1)) 0 rfl rfl dX12_copy_9 ?_
    refine lv_iload_n hx hb dX12_copy_12 rfl (lv_at hl 2 rfl) ?_
    refine lv_iload_n hx hb dX12_copy_13 rfl (lv_at hl 3 rfl) ?_
    refine lv_iadd hx hb dX12_copy_14 ?_
    refine lv_aload_n hx hb dX12_copy_15 rfl (lv_at hl 0 rfl) ?_
    refine gfX12_7 X Y (v := .ref (Am 1)) 0 rfl rfl dX12_copy_16 ?_
    refine lv_iload_n hx hb dX12_copy_19 rfl (lv_at hl 1 rfl) ?_
    refine lv_iload_n hx hb dX12_copy_20 rfl (lv_at hl 3 rfl) ?_
    refine lv_iadd hx hb dX12_copy_21 ?_
    obtain ⟨hi_2, hf⟩ := ck_some hf
    refine x_iald X Y 1 rfl rfl hi_2 dX12_copy_22 ?_
    refine lv_topi (fun v_3 e_v_3 => ?_)
    have hf := bnd_eq hf e_v_3
    obtain ⟨hi_5, hf⟩ := ck_some hf
    obtain ⟨w_4, e_w_4⟩ : ∃ z : Nat → Int32, z = (upd w (x2 + x3).toNatClampNeg v_3) := ⟨_, rfl⟩
    have hf := bnd_eq hf e_w_4
    refine x_iast X Y 1 rfl rfl hi_5 (ws' := (WM Γ Am w_4 kp tx td rf fa fb ap sp iw ig nu lst lwo hh)) (by subst e_w_4; rfl) dX12_copy_23 (fun H locs Y => ?_)
    obtain ⟨x3_6, e_x3_6⟩ : ∃ z : Int32, z = (x3 + (1 : Int32)) := ⟨_, rfl⟩
    have hf := bnd_eq hf e_x3_6
    refine lv_iinc (v := x3_6) (lv' := [(3, .int x3_6), (0, .ref (Am 0)), (1, .int x1), (2, .int x2)]) hx hb dX12_copy_24 hl (k := 3) rfl (by rw [e_x3_6]; rfl) (by decide) rfl (fun ls hl => ?_)
    refine lv_goto (tgt := 2) hx hb dX12_copy_27 (by decide) ?_
    exact h2 _ _ _ _ hf _ _ _ Y (lv_sub hl [1, 2, 3, 0] rfl)
def M_copy_L2 : Nat → Int32 → Int32 → Int32 → (Nat → Int32) → Option ((Nat → Int32))
  | 0, _, _, _, _ => none
  | n + 1, x1, x2, x3, w => M_copy_2 (M_copy_L2 n) x1 x2 x3 w
theorem lM_copy_2 {Am : Nat → Nat} {kp : Nat → Int32} {tx : Nat → Int32} {td : Int32} {rf : Nat → Int32} {fa : Int64} {fb : Int64} {ap : Int32} {sp : Int32} {iw : Int32} {ig : Int32} {nu : Nat → Int32} {lst : Int32} {lwo : Int32} {hh : Int64} {w_z : Nat → Int32} (X : Cx Γ p s m args meth c RX12 cX12_copy 4 none w0) : ∀ (n : Nat) (x1 : Int32) (x2 : Int32) (x3 : Int32) (w : Nat → Int32), M_copy_L2 n x1 x2 x3 w = some w_z → ∀ (H : Heap) (locs : List Loc) (ls : Array Slot), Wd Γ w0 s (WM Γ Am w kp tx td rf fa fb ap sp iw ig nu lst lwo hh) H locs → lv_has ls 4 [(0, .ref (Am 0)), (1, .int x1), (2, .int x2), (3, .int x3)] → W p l e rmM_copy s m args below meth c H locs 0 0 (EV Γ below args s w0 (WM Γ Am w_z kp tx td rf fa fb ap sp iw ig nu lst lwo hh)) (F0 m 2 ls []) := by
  intro n
  induction n with
  | zero => intro x1 x2 x3 w hf; cases hf
  | succ n ih => intro x1 x2 x3 w hf H locs ls Y hl; exact bM_copy_2 X ih hf Y hl
def M_copy (x1 : Int32) (x2 : Int32) (w : Nat → Int32) : Option ((Nat → Int32)) := M_copy_L2 FU x1 x2 (0 : Int32) w
set_option maxHeartbeats 4000000 in
set_option maxRecDepth 100000 in
theorem bM_copy_e {Am : Nat → Nat} {w : Nat → Int32} {kp : Nat → Int32} {tx : Nat → Int32} {td : Int32} {rf : Nat → Int32} {fa : Int64} {fb : Int64} {ap : Int32} {sp : Int32} {iw : Int32} {ig : Int32} {nu : Nat → Int32} {lst : Int32} {lwo : Int32} {hh : Int64} {w_z : Nat → Int32} {x1 : Int32} {x2 : Int32} (X : Cx Γ p s m args meth c RX12 cX12_copy 4 none w0) (hf : M_copy x1 x2 w = some w_z) (Y : Wd Γ w0 s (WM Γ Am w kp tx td rf fa fb ap sp iw ig nu lst lwo hh) H locs) (hl : lv_has ls 4 [(0, .ref (Am 0)), (1, .int x1), (2, .int x2)]) : W p l e rmM_copy s m args below meth c H locs 0 0 (EV Γ below args s w0 (WM Γ Am w_z kp tx td rf fa fb ap sp iw ig nu lst lwo hh)) (F0 m 0 ls []) := by
  have hx := X.1
  have hb := X.2.1
  refine lv_iconst (v := (0 : Int32)) hx hb dX12_copy_0 (by decide) ?_
  refine lv_istore_n (lv' := [(3, .int (0 : Int32)), (0, .ref (Am 0)), (1, .int x1), (2, .int x2)]) hx hb dX12_copy_1 rfl hl (by decide) rfl (fun ls hl => ?_)
  exact lM_copy_2 X _ _ _ _ _ hf _ _ _ Y (lv_sub hl [1, 2, 3, 0] rfl)
theorem cM_copy {l : Launch} {Γ : Gm} {Am : Nat → Nat} {w : Nat → Int32} {kp : Nat → Int32} {tx : Nat → Int32} {td : Int32} {rf : Nat → Int32} {fa : Int64} {fb : Int64} {ap : Int32} {sp : Int32} {iw : Int32} {ig : Int32} {nu : Nat → Int32} {lst : Int32} {lwo : Int32} {hh : Int64} {w_z : Nat → Int32} {x1 : Int32} {x2 : Int32} (h : M_copy x1 x2 w = some w_z) : CV l Γ yX12_copy (Cond.code yX12_copy cX12_copy 4 none :: GW) rmM_copy [.ref (Am 0), .int x1, .int x2] (WM Γ Am w kp tx td rf fa fb ap sp iw ig nu lst lwo hh) (WM Γ Am w_z kp tx td rf fa fb ap sp iw ig nu lst lwo hh) := ofBody (Qc := QcV Γ _ _) (by decide) (Nat.le_of_ble_eq_true rfl) (fun p e s m below meth c ls _ X Y hl => bM_copy_e X h Y hl)
def rmM_begins : Room := { frames := 0, cells := 0, slots := 0, locals := 0 }
def M_begins_3 (rc3 : Int32 → Int32 → Int32 → Int32 → (Nat → Int32) → Option ((Nat → Int32))) (x1 : Int32) (x2 : Int32) (x3 : Int32) (x4 : Int32) (w : Nat → Int32) : Option ((Nat → Int32)) := if (80 : Int32) ≤ x4 then (ck (inb (x1 + (1 : Int32)) 320) (bnd (upd w (x1 + (1 : Int32)).toNatClampNeg x2) (fun (w_2 : Nat → Int32) => ck (inb (x1 + (2 : Int32)) 320) (bnd (upd w_2 (x1 + (2 : Int32)).toNatClampNeg x3) (fun (w_4 : Nat → Int32) => some w_4))))) else (ck (inb (x1 + x4) 320) (bnd (upd w (x1 + x4).toNatClampNeg (0 : Int32)) (fun (w_6 : Nat → Int32) => bnd (x4 + (1 : Int32)) (fun (x4_8 : Int32) => rc3 x1 x2 x3 x4_8 w_6))))
set_option maxHeartbeats 4000000 in
set_option maxRecDepth 100000 in
theorem bM_begins_3 {Am : Nat → Nat} {w : Nat → Int32} {kp : Nat → Int32} {tx : Nat → Int32} {td : Int32} {rf : Nat → Int32} {fa : Int64} {fb : Int64} {ap : Int32} {sp : Int32} {iw : Int32} {ig : Int32} {nu : Nat → Int32} {lst : Int32} {lwo : Int32} {hh : Int64} {w_z : Nat → Int32} {x1 : Int32} {x2 : Int32} {x3 : Int32} {x4 : Int32} {rc3 : Int32 → Int32 → Int32 → Int32 → (Nat → Int32) → Option ((Nat → Int32))} (X : Cx Γ p s m args meth c RX12 cX12_begins 5 none w0) (h3 : ∀ (x1 : Int32) (x2 : Int32) (x3 : Int32) (x4 : Int32) (w : Nat → Int32), rc3 x1 x2 x3 x4 w = some w_z → ∀ (H : Heap) (locs : List Loc) (ls : Array Slot), Wd Γ w0 s (WM Γ Am w kp tx td rf fa fb ap sp iw ig nu lst lwo hh) H locs → lv_has ls 5 [(0, .ref (Am 0)), (1, .int x1), (2, .int x2), (3, .int x3), (4, .int x4)] → W p l e rmM_begins s m args below meth c H locs 0 0 (EV Γ below args s w0 (WM Γ Am w_z kp tx td rf fa fb ap sp iw ig nu lst lwo hh)) (F0 m 3 ls [])) (hf : M_begins_3 rc3 x1 x2 x3 x4 w = some w_z) (Y : Wd Γ w0 s (WM Γ Am w kp tx td rf fa fb ap sp iw ig nu lst lwo hh) H locs) (hl : lv_has ls 5 [(0, .ref (Am 0)), (1, .int x1), (2, .int x2), (3, .int x3), (4, .int x4)]) : W p l e rmM_begins s m args below meth c H locs 0 0 (EV Γ below args s w0 (WM Γ Am w_z kp tx td rf fa fb ap sp iw ig nu lst lwo hh)) (F0 m 3 ls []) := by
  have hx := X.1
  have hb := X.2.1
  refine lv_iload hx hb dX12_begins_3 (lv_at hl 4 rfl) ?_
  refine lv_bipush (v := (80 : Int32)) hx hb dX12_begins_5 (by decide) ?_
  refine lv_icmp_ge (tgt := 26) hx hb dX12_begins_7 (by decide) (fun c_1 => ?_) (fun c_1 => ?_)
  · have hf := ite_t hf c_1
    refine lv_aload_n hx hb dX12_begins_26 rfl (lv_at hl 0 rfl) ?_
    refine gfX12_7 X Y (v := .ref (Am 1)) 0 rfl rfl dX12_begins_27 ?_
    refine lv_iload_n hx hb dX12_begins_30 rfl (lv_at hl 1 rfl) ?_
    refine lv_iconst (v := (1 : Int32)) hx hb dX12_begins_31 (by decide) ?_
    refine lv_iadd hx hb dX12_begins_32 ?_
    refine lv_iload_n hx hb dX12_begins_33 rfl (lv_at hl 2 rfl) ?_
    obtain ⟨hi_3, hf⟩ := ck_some hf
    obtain ⟨w_2, e_w_2⟩ : ∃ z : Nat → Int32, z = (upd w (x1 + (1 : Int32)).toNatClampNeg x2) := ⟨_, rfl⟩
    have hf := bnd_eq hf e_w_2
    refine x_iast X Y 1 rfl rfl hi_3 (ws' := (WM Γ Am w_2 kp tx td rf fa fb ap sp iw ig nu lst lwo hh)) (by subst e_w_2; rfl) dX12_begins_34 (fun H locs Y => ?_)
    refine lv_aload_n hx hb dX12_begins_35 rfl (lv_at hl 0 rfl) ?_
    refine gfX12_7 X Y (v := .ref (Am 1)) 0 rfl rfl dX12_begins_36 ?_
    refine lv_iload_n hx hb dX12_begins_39 rfl (lv_at hl 1 rfl) ?_
    refine lv_iconst (v := (2 : Int32)) hx hb dX12_begins_40 (by decide) ?_
    refine lv_iadd hx hb dX12_begins_41 ?_
    refine lv_iload_n hx hb dX12_begins_42 rfl (lv_at hl 3 rfl) ?_
    obtain ⟨hi_5, hf⟩ := ck_some hf
    obtain ⟨w_4, e_w_4⟩ : ∃ z : Nat → Int32, z = (upd w_2 (x1 + (2 : Int32)).toNatClampNeg x3) := ⟨_, rfl⟩
    have hf := bnd_eq hf e_w_4
    refine x_iast X Y 1 rfl rfl hi_5 (ws' := (WM Γ Am w_4 kp tx td rf fa fb ap sp iw ig nu lst lwo hh)) (by subst e_w_4; rfl) dX12_begins_43 (fun H locs Y => ?_)
    have e90 := Option.some.inj hf
    subst e90
    exact x_vret X Y dX12_begins_44
  · have hf := ite_f hf c_1
    refine lv_aload_n hx hb dX12_begins_10 rfl (lv_at hl 0 rfl) ?_
    refine gfX12_7 X Y (v := .ref (Am 1)) 0 rfl rfl dX12_begins_11 ?_
    refine lv_iload_n hx hb dX12_begins_14 rfl (lv_at hl 1 rfl) ?_
    refine lv_iload hx hb dX12_begins_15 (lv_at hl 4 rfl) ?_
    refine lv_iadd hx hb dX12_begins_17 ?_
    refine lv_iconst (v := (0 : Int32)) hx hb dX12_begins_18 (by decide) ?_
    obtain ⟨hi_7, hf⟩ := ck_some hf
    obtain ⟨w_6, e_w_6⟩ : ∃ z : Nat → Int32, z = (upd w (x1 + x4).toNatClampNeg (0 : Int32)) := ⟨_, rfl⟩
    have hf := bnd_eq hf e_w_6
    refine x_iast X Y 1 rfl rfl hi_7 (ws' := (WM Γ Am w_6 kp tx td rf fa fb ap sp iw ig nu lst lwo hh)) (by subst e_w_6; rfl) dX12_begins_19 (fun H locs Y => ?_)
    obtain ⟨x4_8, e_x4_8⟩ : ∃ z : Int32, z = (x4 + (1 : Int32)) := ⟨_, rfl⟩
    have hf := bnd_eq hf e_x4_8
    refine lv_iinc (v := x4_8) (lv' := [(4, .int x4_8), (0, .ref (Am 0)), (1, .int x1), (2, .int x2), (3, .int x3)]) hx hb dX12_begins_20 hl (k := 4) rfl (by rw [e_x4_8]; rfl) (by decide) rfl (fun ls hl => ?_)
    refine lv_goto (tgt := 3) hx hb dX12_begins_23 (by decide) ?_
    exact h3 _ _ _ _ _ hf _ _ _ Y (lv_sub hl [1, 2, 3, 4, 0] rfl)
def M_begins_L3 : Nat → Int32 → Int32 → Int32 → Int32 → (Nat → Int32) → Option ((Nat → Int32))
  | 0, _, _, _, _, _ => none
  | n + 1, x1, x2, x3, x4, w => M_begins_3 (M_begins_L3 n) x1 x2 x3 x4 w
theorem lM_begins_3 {Am : Nat → Nat} {kp : Nat → Int32} {tx : Nat → Int32} {td : Int32} {rf : Nat → Int32} {fa : Int64} {fb : Int64} {ap : Int32} {sp : Int32} {iw : Int32} {ig : Int32} {nu : Nat → Int32} {lst : Int32} {lwo : Int32} {hh : Int64} {w_z : Nat → Int32} (X : Cx Γ p s m args meth c RX12 cX12_begins 5 none w0) : ∀ (n : Nat) (x1 : Int32) (x2 : Int32) (x3 : Int32) (x4 : Int32) (w : Nat → Int32), M_begins_L3 n x1 x2 x3 x4 w = some w_z → ∀ (H : Heap) (locs : List Loc) (ls : Array Slot), Wd Γ w0 s (WM Γ Am w kp tx td rf fa fb ap sp iw ig nu lst lwo hh) H locs → lv_has ls 5 [(0, .ref (Am 0)), (1, .int x1), (2, .int x2), (3, .int x3), (4, .int x4)] → W p l e rmM_begins s m args below meth c H locs 0 0 (EV Γ below args s w0 (WM Γ Am w_z kp tx td rf fa fb ap sp iw ig nu lst lwo hh)) (F0 m 3 ls []) := by
  intro n
  induction n with
  | zero => intro x1 x2 x3 x4 w hf; cases hf
  | succ n ih => intro x1 x2 x3 x4 w hf H locs ls Y hl; exact bM_begins_3 X ih hf Y hl
def M_begins (x1 : Int32) (x2 : Int32) (x3 : Int32) (w : Nat → Int32) : Option ((Nat → Int32)) := M_begins_L3 FU x1 x2 x3 (0 : Int32) w
set_option maxHeartbeats 4000000 in
set_option maxRecDepth 100000 in
theorem bM_begins_e {Am : Nat → Nat} {w : Nat → Int32} {kp : Nat → Int32} {tx : Nat → Int32} {td : Int32} {rf : Nat → Int32} {fa : Int64} {fb : Int64} {ap : Int32} {sp : Int32} {iw : Int32} {ig : Int32} {nu : Nat → Int32} {lst : Int32} {lwo : Int32} {hh : Int64} {w_z : Nat → Int32} {x1 : Int32} {x2 : Int32} {x3 : Int32} (X : Cx Γ p s m args meth c RX12 cX12_begins 5 none w0) (hf : M_begins x1 x2 x3 w = some w_z) (Y : Wd Γ w0 s (WM Γ Am w kp tx td rf fa fb ap sp iw ig nu lst lwo hh) H locs) (hl : lv_has ls 5 [(0, .ref (Am 0)), (1, .int x1), (2, .int x2), (3, .int x3)]) : W p l e rmM_begins s m args below meth c H locs 0 0 (EV Γ below args s w0 (WM Γ Am w_z kp tx td rf fa fb ap sp iw ig nu lst lwo hh)) (F0 m 0 ls []) := by
  have hx := X.1
  have hb := X.2.1
  refine lv_iconst (v := (0 : Int32)) hx hb dX12_begins_0 (by decide) ?_
  refine lv_istore (lv' := [(4, .int (0 : Int32)), (0, .ref (Am 0)), (1, .int x1), (2, .int x2), (3, .int x3)]) hx hb dX12_begins_1 hl (by decide) rfl (fun ls hl => ?_)
  exact lM_begins_3 X _ _ _ _ _ _ hf _ _ _ Y (lv_sub hl [1, 2, 3, 4, 0] rfl)
theorem cM_begins {l : Launch} {Γ : Gm} {Am : Nat → Nat} {w : Nat → Int32} {kp : Nat → Int32} {tx : Nat → Int32} {td : Int32} {rf : Nat → Int32} {fa : Int64} {fb : Int64} {ap : Int32} {sp : Int32} {iw : Int32} {ig : Int32} {nu : Nat → Int32} {lst : Int32} {lwo : Int32} {hh : Int64} {w_z : Nat → Int32} {x1 : Int32} {x2 : Int32} {x3 : Int32} (h : M_begins x1 x2 x3 w = some w_z) : CV l Γ yX12_begins (Cond.code yX12_begins cX12_begins 5 none :: GW) rmM_begins [.ref (Am 0), .int x1, .int x2, .int x3] (WM Γ Am w kp tx td rf fa fb ap sp iw ig nu lst lwo hh) (WM Γ Am w_z kp tx td rf fa fb ap sp iw ig nu lst lwo hh) := ofBody (Qc := QcV Γ _ _) (by decide) (Nat.le_of_ble_eq_true rfl) (fun p e s m below meth c ls _ X Y hl => bM_begins_e X h Y hl)
theorem dmX12_inS : yX12_in.cls ≠ "java/lang/invoke/MethodHandle" ∧ yX12_in.cls ≠ "java/lang/invoke/VarHandle" ∧ (parseMethodDescriptor yX12_in.desc).map (fun d => d.parameters.length) = some 3 := by decide +kernel
theorem cwX12_34 (X : Cx Γ p s m args meth c RX12 cc nL ret w0) (hR : rmM_in.frames + 1 ≤ R.frames ∧ 8 + (6 + 11) + rmM_in.locals ≤ R.locals) : CallB R s args RX12 34 yX12_in cX12_in 6 (some .boolean) (Cond.code yX12_in cX12_in 6 (some .boolean) :: GW) rmM_in 0 0 3 ∧ (Cond.static yX12_in).before args s = true := cw_S X kw2 kw3 kw4 kw5 dmX12_inS rfl rfl hR
def rmM_isGoods : Room := { frames := 1, cells := 0, slots := 0, locals := 25 }
def M_isGoods (x1 : Int32) (w : Nat → Int32) : Option (Int32) := bd1 (M_in x1.toInt64 (0 : Int64) ((w 0) - (1 : Int32)).toInt64) (fun (r_1 : Int32) => ck (bo r_1) (some r_1))
set_option maxHeartbeats 4000000 in
set_option maxRecDepth 100000 in
theorem bM_isGoods_e {Am : Nat → Nat} {w : Nat → Int32} {kp : Nat → Int32} {tx : Nat → Int32} {td : Int32} {rf : Nat → Int32} {fa : Int64} {fb : Int64} {ap : Int32} {sp : Int32} {iw : Int32} {ig : Int32} {nu : Nat → Int32} {lst : Int32} {lwo : Int32} {hh : Int64} {r0 : Int32} {x1 : Int32} (X : Cx Γ p s m args meth c RX12 cX12_isGoods 2 (some .boolean) w0) (hf : M_isGoods x1 w = some r0) (Y : Wd Γ w0 s (WM Γ Am w kp tx td rf fa fb ap sp iw ig nu lst lwo hh) H locs) (hl : lv_has ls 2 [(0, .ref (Am 0)), (1, .int x1)]) : W p l e rmM_isGoods s m args below meth c H locs 0 0 (EI Γ below args s w0 (WM Γ Am w kp tx td rf fa fb ap sp iw ig nu lst lwo hh) r0) (F0 m 0 ls []) := by
  have hx := X.1
  have hb := X.2.1
  refine lv_iload_n hx hb dX12_isGoods_0 rfl (lv_at hl 1 rfl) ?_
  refine lv_i2l (v := x1.toInt64) hx hb dX12_isGoods_1 rfl ?_
  refine lv_lconst (v := (0 : Int64)) hx hb dX12_isGoods_2 (by decide) ?_
  refine lv_aload_n hx hb dX12_isGoods_3 rfl (lv_at hl 0 rfl) ?_
  refine gfX12_7 X Y (v := .ref (Am 1)) 0 rfl rfl dX12_isGoods_4 ?_
  refine lv_iconst (v := (0 : Int32)) hx hb dX12_isGoods_7 (by decide) ?_
  refine x_iald X Y 1 rfl (j := 0) rfl rfl dX12_isGoods_8 ?_
  refine lv_iconst (v := (1 : Int32)) hx hb dX12_isGoods_9 (by decide) ?_
  refine lv_isub hx hb dX12_isGoods_10 ?_
  refine lv_i2l (v := ((w 0) - (1 : Int32)).toInt64) hx hb dX12_isGoods_11 rfl ?_
  obtain ⟨r_1, ho_3, hf⟩ := bd1_some hf
  refine t_i Y (bk0 Y) (r_S (As := [.long x1.toInt64, .long (0 : Int64), .long ((w 0) - (1 : Int32)).toInt64]) (rest := []) X (c_pre0 X Y) (cM_in ho_3) (cwX12_34 X (by decide)) rfl hl.1 (Nat.le_of_ble_eq_true rfl) rfl dX12_isGoods_12 ⟨Nat.zero_le _, Nat.zero_le _⟩) (fun H locs Y => ?_)
  obtain ⟨hz_2, hf⟩ := ck_some hf
  have e90 := Option.some.inj hf
  subst e90
  exact x_zret X Y (bo_nar hz_2) dX12_isGoods_15
theorem cM_isGoods {l : Launch} {Γ : Gm} {Am : Nat → Nat} {w : Nat → Int32} {kp : Nat → Int32} {tx : Nat → Int32} {td : Int32} {rf : Nat → Int32} {fa : Int64} {fb : Int64} {ap : Int32} {sp : Int32} {iw : Int32} {ig : Int32} {nu : Nat → Int32} {lst : Int32} {lwo : Int32} {hh : Int64} {r0 : Int32} {x1 : Int32} (h : M_isGoods x1 w = some r0) : CI l Γ yX12_isGoods (Cond.code yX12_isGoods cX12_isGoods 2 (some .boolean) :: GW) rmM_isGoods [.ref (Am 0), .int x1] (WM Γ Am w kp tx td rf fa fb ap sp iw ig nu lst lwo hh) (WM Γ Am w kp tx td rf fa fb ap sp iw ig nu lst lwo hh) r0 := ofBody (Qc := QcI Γ _ _ r0) (by decide) (Nat.le_of_ble_eq_true rfl) (fun p e s m below meth c ls _ X Y hl => bM_isGoods_e X h Y hl)
def rmM_isOwner : Room := { frames := 1, cells := 0, slots := 0, locals := 25 }
def M_isOwner (x0 : Int32) : Option (Int32) := bd1 (M_in x0.toInt64 (0 : Int64) (3 : Int64)) (fun (r_1 : Int32) => ck (bo r_1) (some r_1))
set_option maxHeartbeats 4000000 in
set_option maxRecDepth 100000 in
theorem bM_isOwner_e {r0 : Int32} {x0 : Int32} (X : Cx Γ p s m args meth c RX12 cX12_isOwner 1 (some .boolean) w0) (hf : M_isOwner x0 = some r0) (Y : Wd Γ w0 s ([] : va_W) H locs) (hl : lv_has ls 1 [(0, .int x0)]) : W p l e rmM_isOwner s m args below meth c H locs 0 0 (EI Γ below args s w0 ([] : va_W) r0) (F0 m 0 ls []) := by
  have hx := X.1
  have hb := X.2.1
  refine lv_iload_n hx hb dX12_isOwner_0 rfl (lv_at hl 0 rfl) ?_
  refine lv_i2l (v := x0.toInt64) hx hb dX12_isOwner_1 rfl ?_
  refine lv_lconst (v := (0 : Int64)) hx hb dX12_isOwner_2 (by decide) ?_
  refine lv_ldc2 (v := (3 : Int64)) hx hb X.2.2.2.1 (X.2.2.2.2.1 _ kw6) dX12_isOwner_3 ?_
  obtain ⟨r_1, ho_3, hf⟩ := bd1_some hf
  refine t_i Y (bk0 Y) (r_S (As := [.long x0.toInt64, .long (0 : Int64), .long (3 : Int64)]) (rest := []) X (c_pre0 X Y) (cM_in ho_3) (cwX12_34 X (by decide)) rfl hl.1 (Nat.le_of_ble_eq_true rfl) rfl dX12_isOwner_6 ⟨Nat.zero_le _, Nat.zero_le _⟩) (fun H locs Y => ?_)
  obtain ⟨hz_2, hf⟩ := ck_some hf
  have e90 := Option.some.inj hf
  subst e90
  exact x_zret X Y (bo_nar hz_2) dX12_isOwner_9
theorem cM_isOwner {l : Launch} {Γ : Gm} {r0 : Int32} {x0 : Int32} (h : M_isOwner x0 = some r0) : CI l Γ yX12_isOwner (Cond.code yX12_isOwner cX12_isOwner 1 (some .boolean) :: GW) rmM_isOwner [.int x0] ([] : va_W) ([] : va_W) r0 := ofBody (Qc := QcI Γ _ _ r0) (by decide) (Nat.le_of_ble_eq_true rfl) (fun p e s m below meth c ls _ X Y hl => bM_isOwner_e X h Y hl)
def rmM_isStorm : Room := { frames := 1, cells := 0, slots := 0, locals := 25 }
def M_isStorm (x0 : Int32) : Option (Int32) := bd1 (M_in x0.toInt64 (0 : Int64) (200 : Int64)) (fun (r_1 : Int32) => ck (bo r_1) (some r_1))
set_option maxHeartbeats 4000000 in
set_option maxRecDepth 100000 in
theorem bM_isStorm_e {r0 : Int32} {x0 : Int32} (X : Cx Γ p s m args meth c RX12 cX12_isStorm 1 (some .boolean) w0) (hf : M_isStorm x0 = some r0) (Y : Wd Γ w0 s ([] : va_W) H locs) (hl : lv_has ls 1 [(0, .int x0)]) : W p l e rmM_isStorm s m args below meth c H locs 0 0 (EI Γ below args s w0 ([] : va_W) r0) (F0 m 0 ls []) := by
  have hx := X.1
  have hb := X.2.1
  refine lv_iload_n hx hb dX12_isStorm_0 rfl (lv_at hl 0 rfl) ?_
  refine lv_i2l (v := x0.toInt64) hx hb dX12_isStorm_1 rfl ?_
  refine lv_lconst (v := (0 : Int64)) hx hb dX12_isStorm_2 (by decide) ?_
  refine lv_ldc2 (v := (200 : Int64)) hx hb X.2.2.2.1 (X.2.2.2.2.1 _ kw7) dX12_isStorm_3 ?_
  obtain ⟨r_1, ho_3, hf⟩ := bd1_some hf
  refine t_i Y (bk0 Y) (r_S (As := [.long x0.toInt64, .long (0 : Int64), .long (200 : Int64)]) (rest := []) X (c_pre0 X Y) (cM_in ho_3) (cwX12_34 X (by decide)) rfl hl.1 (Nat.le_of_ble_eq_true rfl) rfl dX12_isStorm_6 ⟨Nat.zero_le _, Nat.zero_le _⟩) (fun H locs Y => ?_)
  obtain ⟨hz_2, hf⟩ := ck_some hf
  have e90 := Option.some.inj hf
  subst e90
  exact x_zret X Y (bo_nar hz_2) dX12_isStorm_9
theorem cM_isStorm {l : Launch} {Γ : Gm} {r0 : Int32} {x0 : Int32} (h : M_isStorm x0 = some r0) : CI l Γ yX12_isStorm (Cond.code yX12_isStorm cX12_isStorm 1 (some .boolean) :: GW) rmM_isStorm [.int x0] ([] : va_W) ([] : va_W) r0 := ofBody (Qc := QcI Γ _ _ r0) (by decide) (Nat.le_of_ble_eq_true rfl) (fun p e s m below meth c ls _ X Y hl => bM_isStorm_e X h Y hl)
theorem dmX12_beginsV : yX12_begins.cls = RX12 ∧ yX12_begins.cls ≠ "java/lang/invoke/MethodHandle" ∧ yX12_begins.cls ≠ "java/lang/invoke/VarHandle" ∧ (parseMethodDescriptor yX12_begins.desc).map (fun d => d.parameters.length) = some 3 := by decide +kernel
theorem cwX12_30 (X : Cx Γ p s m args meth c RX12 cc nL ret w0) (hR : rmM_begins.frames + 1 ≤ R.frames ∧ 8 + (5 + 11) + rmM_begins.locals ≤ R.locals) : CallW R s args RX12 RX12 30 yX12_begins cX12_begins 5 none (Cond.code yX12_begins cX12_begins 5 none :: GW) rmM_begins 0 0 3 := cw_V X kw9 kw10 kw11 kw4 kw12 dmX12_beginsV rfl rfl hR
theorem dmX12_badV : yX12_bad.cls = RX12 ∧ yX12_bad.cls ≠ "java/lang/invoke/MethodHandle" ∧ yX12_bad.cls ≠ "java/lang/invoke/VarHandle" ∧ (parseMethodDescriptor yX12_bad.desc).map (fun d => d.parameters.length) = some 0 := by decide +kernel
theorem cwX12_44 (X : Cx Γ p s m args meth c RX12 cc nL ret w0) (hR : rmM_bad.frames + 1 ≤ R.frames ∧ 8 + (1 + 11) + rmM_bad.locals ≤ R.locals) : CallW R s args RX12 RX12 44 yX12_bad cX12_bad 1 (some .int) (Cond.code yX12_bad cX12_bad 1 (some .int) :: GW) rmM_bad 0 0 0 := cw_V X kw13 kw14 kw15 kw4 kw16 dmX12_badV rfl rfl hR
def rmM_ship : Room := { frames := 1, cells := 0, slots := 0, locals := 25 }
def M_ship_24 (w : Nat → Int32) (rf : Nat → Int32) : Option (Int32 × (Nat → Int32) × (Nat → Int32)) := bd2 (M_bad rf) (fun (r_1 : Int32) (rf_2 : Nat → Int32) => some (r_1, w, rf_2))
set_option maxHeartbeats 4000000 in
set_option maxRecDepth 100000 in
theorem bM_ship_24 {Am : Nat → Nat} {w : Nat → Int32} {kp : Nat → Int32} {tx : Nat → Int32} {td : Int32} {rf : Nat → Int32} {fa : Int64} {fb : Int64} {ap : Int32} {sp : Int32} {iw : Int32} {ig : Int32} {nu : Nat → Int32} {lst : Int32} {lwo : Int32} {hh : Int64} {w_z : Nat → Int32} {rf_z : Nat → Int32} {r0 : Int32} (X : Cx Γ p s m args meth c RX12 cX12_ship 4 (some .int) w0) (hf : M_ship_24 w rf = some (r0, w_z, rf_z)) (Y : Wd Γ w0 s (WM Γ Am w kp tx td rf fa fb ap sp iw ig nu lst lwo hh) H locs) (hl : lv_has ls 4 [(0, .ref (Am 0))]) : W p l e rmM_ship s m args below meth c H locs 0 0 (EI Γ below args s w0 (WM Γ Am w_z kp tx td rf_z fa fb ap sp iw ig nu lst lwo hh) r0) (F0 m 24 ls []) := by
  have hx := X.1
  have hb := X.2.1
  refine lv_aload_n hx hb dX12_ship_24 rfl (lv_at hl 0 rfl) ?_
  obtain ⟨r_1, rf_2, ho_3, hf⟩ := bd2_some hf
  refine t_i Y (bkS Y) (r_V (As := []) (rest := []) X (c_preS X Y) (cM_bad ho_3) (cwX12_44 X (by decide)) (va_recv X.K Y.1 (q := (RX12, TX12, 15)) (q0 := 0) (ci := 12) rfl rfl) rfl hl.1 (Nat.le_of_ble_eq_true rfl) rfl dX12_ship_25 ⟨Nat.zero_le _, Nat.zero_le _⟩) (fun H locs Y => ?_)
  obtain ⟨e90, e91, e92⟩ := sj3 hf
  subst e90
  subst e91
  subst e92
  exact x_iret X Y dX12_ship_28
def M_ship (x1 : Int32) (x2 : Int32) (w : Nat → Int32) (rf : Nat → Int32) : Option (Int32 × (Nat → Int32) × (Nat → Int32)) := bd1 (M_in x1.toInt64 (0 : Int64) (99 : Int64)) (fun (r_1 : Int32) => if r_1 = 0 then (M_ship_24 w rf) else (bd1 (M_in x2.toInt64 (0 : Int64) (200 : Int64)) (fun (r_3 : Int32) => if r_3 = 0 then (M_ship_24 w rf) else (bnd (w 0) (fun (x3_5 : Int32) => bd1 (M_begins (0 : Int32) x1 x2 w) (fun (w_6 : Nat → Int32) => some (x3_5, w_6, rf)))))))
set_option maxHeartbeats 4000000 in
set_option maxRecDepth 100000 in
theorem bM_ship_e {Am : Nat → Nat} {w : Nat → Int32} {kp : Nat → Int32} {tx : Nat → Int32} {td : Int32} {rf : Nat → Int32} {fa : Int64} {fb : Int64} {ap : Int32} {sp : Int32} {iw : Int32} {ig : Int32} {nu : Nat → Int32} {lst : Int32} {lwo : Int32} {hh : Int64} {w_z : Nat → Int32} {rf_z : Nat → Int32} {r0 : Int32} {x1 : Int32} {x2 : Int32} (X : Cx Γ p s m args meth c RX12 cX12_ship 4 (some .int) w0) (hf : M_ship x1 x2 w rf = some (r0, w_z, rf_z)) (Y : Wd Γ w0 s (WM Γ Am w kp tx td rf fa fb ap sp iw ig nu lst lwo hh) H locs) (hl : lv_has ls 4 [(0, .ref (Am 0)), (1, .int x1), (2, .int x2)]) : W p l e rmM_ship s m args below meth c H locs 0 0 (EI Γ below args s w0 (WM Γ Am w_z kp tx td rf_z fa fb ap sp iw ig nu lst lwo hh) r0) (F0 m 0 ls []) := by
  have hx := X.1
  have hb := X.2.1
  refine lv_iload_n hx hb dX12_ship_0 rfl (lv_at hl 1 rfl) ?_
  refine lv_i2l (v := x1.toInt64) hx hb dX12_ship_1 rfl ?_
  refine lv_lconst (v := (0 : Int64)) hx hb dX12_ship_2 (by decide) ?_
  refine lv_ldc2 (v := (99 : Int64)) hx hb X.2.2.2.1 (X.2.2.2.2.1 _ kw8) dX12_ship_3 ?_
  obtain ⟨r_1, ho_9, hf⟩ := bd1_some hf
  refine t_i Y (bk0 Y) (r_S (As := [.long x1.toInt64, .long (0 : Int64), .long (99 : Int64)]) (rest := []) X (c_pre0 X Y) (cM_in ho_9) (cwX12_34 X (by decide)) rfl hl.1 (Nat.le_of_ble_eq_true rfl) rfl dX12_ship_6 ⟨Nat.zero_le _, Nat.zero_le _⟩) (fun H locs Y => ?_)
  refine lv_if_eq (tgt := 24) hx hb dX12_ship_9 (by decide) (fun c_2 => ?_) (fun c_2 => ?_)
  · have hf := ite_t hf c_2
    exact bM_ship_24 X hf Y (lv_sub hl [0] rfl)
  · have hf := ite_f hf c_2
    refine lv_iload_n hx hb dX12_ship_12 rfl (lv_at hl 2 rfl) ?_
    refine lv_i2l (v := x2.toInt64) hx hb dX12_ship_13 rfl ?_
    refine lv_lconst (v := (0 : Int64)) hx hb dX12_ship_14 (by decide) ?_
    refine lv_ldc2 (v := (200 : Int64)) hx hb X.2.2.2.1 (X.2.2.2.2.1 _ kw7) dX12_ship_15 ?_
    obtain ⟨r_3, ho_8, hf⟩ := bd1_some hf
    refine t_i Y (bk0 Y) (r_S (As := [.long x2.toInt64, .long (0 : Int64), .long (200 : Int64)]) (rest := []) X (c_pre0 X Y) (cM_in ho_8) (cwX12_34 X (by decide)) rfl hl.1 (Nat.le_of_ble_eq_true rfl) rfl dX12_ship_18 ⟨Nat.zero_le _, Nat.zero_le _⟩) (fun H locs Y => ?_)
    refine lv_if_ne (tgt := 29) hx hb dX12_ship_21 (by decide) (fun c_4 => ?_) (fun c_4 => ?_)
    · have hf := ite_f hf c_4
      refine lv_aload_n hx hb dX12_ship_29 rfl (lv_at hl 0 rfl) ?_
      refine gfX12_7 X Y (v := .ref (Am 1)) 0 rfl rfl dX12_ship_30 ?_
      refine lv_iconst (v := (0 : Int32)) hx hb dX12_ship_33 (by decide) ?_
      refine x_iald X Y 1 rfl (j := 0) rfl rfl dX12_ship_34 ?_
      refine lv_topi (fun x3_5 e_x3_5 => ?_)
      have hf := bnd_eq hf e_x3_5
      refine lv_istore_n (lv' := [(3, .int x3_5), (0, .ref (Am 0)), (1, .int x1), (2, .int x2)]) hx hb dX12_ship_35 rfl hl (by decide) rfl (fun ls hl => ?_)
      refine lv_aload_n hx hb dX12_ship_36 rfl (lv_at hl 1 rfl) ?_
      refine lv_iconst (v := (0 : Int32)) hx hb dX12_ship_37 (by decide) ?_
      refine lv_iload_n hx hb dX12_ship_38 rfl (lv_at hl 2 rfl) ?_
      refine lv_iload_n hx hb dX12_ship_39 rfl (lv_at hl 3 rfl) ?_
      obtain ⟨w_6, ho_7, hf⟩ := bd1_some hf
      refine t_v Y (bkS Y) (r_V (As := [.int (0 : Int32), .int x1, .int x2]) (rest := []) X (c_preS X Y) (cM_begins ho_7) (cwX12_30 X (by decide)) (va_recv X.K Y.1 (q := (RX12, TX12, 15)) (q0 := 0) (ci := 12) rfl rfl) rfl hl.1 (Nat.le_of_ble_eq_true rfl) rfl dX12_ship_40 ⟨Nat.zero_le _, Nat.zero_le _⟩) (fun H locs Y => ?_)
      refine lv_iload_n hx hb dX12_ship_43 rfl (lv_at hl 0 rfl) ?_
      obtain ⟨e90, e91, e92⟩ := sj3 hf
      subst e90
      subst e91
      subst e92
      exact x_iret X Y dX12_ship_44
    · have hf := ite_t hf c_4
      exact bM_ship_24 X hf Y (lv_sub hl [0] rfl)
theorem cM_ship {l : Launch} {Γ : Gm} {Am : Nat → Nat} {w : Nat → Int32} {kp : Nat → Int32} {tx : Nat → Int32} {td : Int32} {rf : Nat → Int32} {fa : Int64} {fb : Int64} {ap : Int32} {sp : Int32} {iw : Int32} {ig : Int32} {nu : Nat → Int32} {lst : Int32} {lwo : Int32} {hh : Int64} {w_z : Nat → Int32} {rf_z : Nat → Int32} {r0 : Int32} {x1 : Int32} {x2 : Int32} (h : M_ship x1 x2 w rf = some (r0, w_z, rf_z)) : CI l Γ yX12_ship (Cond.code yX12_ship cX12_ship 4 (some .int) :: GW) rmM_ship [.ref (Am 0), .int x1, .int x2] (WM Γ Am w kp tx td rf fa fb ap sp iw ig nu lst lwo hh) (WM Γ Am w_z kp tx td rf_z fa fb ap sp iw ig nu lst lwo hh) r0 := ofBody (Qc := QcI Γ _ _ r0) (by decide) (Nat.le_of_ble_eq_true rfl) (fun p e s m below meth c ls _ X Y hl => bM_ship_e X h Y hl)
def rmM_adds : Room := { frames := 0, cells := 0, slots := 0, locals := 0 }
def M_adds (x1 : Int32) (x2 : Int32) (x3 : Int32) (x4 : Int32) (x5 : Int32) (x6 : Int32) (x7 : Int32) (w : Nat → Int32) : Option (Int32 × (Nat → Int32)) := ck (inb (x1 + (0 : Int32)) 320) (bnd (w (x1 + (0 : Int32)).toNatClampNeg) (fun (x8_2 : Int32) => ck (inb ((x1 + (6 : Int32)) + x8_2) 320) (bnd (upd w ((x1 + (6 : Int32)) + x8_2).toNatClampNeg x2) (fun (w_3 : Nat → Int32) => ck (inb ((x1 + (14 : Int32)) + x8_2) 320) (bnd (upd w_3 ((x1 + (14 : Int32)) + x8_2).toNatClampNeg x3) (fun (w_5 : Nat → Int32) => ck (inb ((x1 + (22 : Int32)) + x8_2) 320) (bnd (upd w_5 ((x1 + (22 : Int32)) + x8_2).toNatClampNeg x4) (fun (w_7 : Nat → Int32) => ck (inb ((x1 + (30 : Int32)) + x8_2) 320) (bnd (upd w_7 ((x1 + (30 : Int32)) + x8_2).toNatClampNeg x5) (fun (w_9 : Nat → Int32) => ck (inb ((x1 + (38 : Int32)) + x8_2) 320) (bnd (upd w_9 ((x1 + (38 : Int32)) + x8_2).toNatClampNeg x6) (fun (w_11 : Nat → Int32) => ck (inb ((x1 + (46 : Int32)) + x8_2) 320) (bnd (upd w_11 ((x1 + (46 : Int32)) + x8_2).toNatClampNeg x7) (fun (w_13 : Nat → Int32) => ck (inb (x1 + (5 : Int32)) 320) (bnd ((w_13 (x1 + (5 : Int32)).toNatClampNeg) ||| ((1 : Int32) <<< (x8_2 &&& 31))) (fun (v_16 : Int32) => ck (inb (x1 + (5 : Int32)) 320) (bnd (upd w_13 (x1 + (5 : Int32)).toNatClampNeg v_16) (fun (w_17 : Nat → Int32) => ck (inb (x1 + (0 : Int32)) 320) (bnd ((w_17 (x1 + (0 : Int32)).toNatClampNeg) + (1 : Int32)) (fun (v_20 : Int32) => ck (inb (x1 + (0 : Int32)) 320) (bnd (upd w_17 (x1 + (0 : Int32)).toNatClampNeg v_20) (fun (w_21 : Nat → Int32) => some (x8_2, w_21)))))))))))))))))))))))
set_option maxHeartbeats 4000000 in
set_option maxRecDepth 100000 in
theorem bM_adds_e {Am : Nat → Nat} {w : Nat → Int32} {kp : Nat → Int32} {tx : Nat → Int32} {td : Int32} {rf : Nat → Int32} {fa : Int64} {fb : Int64} {ap : Int32} {sp : Int32} {iw : Int32} {ig : Int32} {nu : Nat → Int32} {lst : Int32} {lwo : Int32} {hh : Int64} {w_z : Nat → Int32} {r0 : Int32} {x1 : Int32} {x2 : Int32} {x3 : Int32} {x4 : Int32} {x5 : Int32} {x6 : Int32} {x7 : Int32} (X : Cx Γ p s m args meth c RX12 cX12_adds 9 (some .int) w0) (hf : M_adds x1 x2 x3 x4 x5 x6 x7 w = some (r0, w_z)) (Y : Wd Γ w0 s (WM Γ Am w kp tx td rf fa fb ap sp iw ig nu lst lwo hh) H locs) (hl : lv_has ls 9 [(0, .ref (Am 0)), (1, .int x1), (2, .int x2), (3, .int x3), (4, .int x4), (5, .int x5), (6, .int x6), (7, .int x7)]) : W p l e rmM_adds s m args below meth c H locs 0 0 (EI Γ below args s w0 (WM Γ Am w_z kp tx td rf fa fb ap sp iw ig nu lst lwo hh) r0) (F0 m 0 ls []) := by
  have hx := X.1
  have hb := X.2.1
  refine lv_aload_n hx hb dX12_adds_0 rfl (lv_at hl 0 rfl) ?_
  refine gfX12_7 X Y (v := .ref (Am 1)) 0 rfl rfl dX12_adds_1 ?_
  refine lv_iload_n hx hb dX12_adds_4 rfl (lv_at hl 1 rfl) ?_
  refine lv_iconst (v := (0 : Int32)) hx hb dX12_adds_5 (by decide) ?_
  refine lv_iadd hx hb dX12_adds_6 ?_
  obtain ⟨hi_1, hf⟩ := ck_some hf
  refine x_iald X Y 1 rfl rfl hi_1 dX12_adds_7 ?_
  refine lv_topi (fun x8_2 e_x8_2 => ?_)
  have hf := bnd_eq hf e_x8_2
  refine lv_istore (lv' := [(8, .int x8_2), (0, .ref (Am 0)), (1, .int x1), (2, .int x2), (3, .int x3), (4, .int x4), (5, .int x5), (6, .int x6), (7, .int x7)]) hx hb dX12_adds_8 hl (by decide) rfl (fun ls hl => ?_)
  refine lv_aload_n hx hb dX12_adds_10 rfl (lv_at hl 1 rfl) ?_
  refine gfX12_7 X Y (v := .ref (Am 1)) 0 rfl rfl dX12_adds_11 ?_
  refine lv_iload_n hx hb dX12_adds_14 rfl (lv_at hl 2 rfl) ?_
  refine lv_bipush (v := (6 : Int32)) hx hb dX12_adds_15 (by decide) ?_
  refine lv_iadd hx hb dX12_adds_17 ?_
  refine lv_iload hx hb dX12_adds_18 (lv_at hl 0 rfl) ?_
  refine lv_iadd hx hb dX12_adds_20 ?_
  refine lv_iload_n hx hb dX12_adds_21 rfl (lv_at hl 3 rfl) ?_
  obtain ⟨hi_4, hf⟩ := ck_some hf
  obtain ⟨w_3, e_w_3⟩ : ∃ z : Nat → Int32, z = (upd w ((x1 + (6 : Int32)) + x8_2).toNatClampNeg x2) := ⟨_, rfl⟩
  have hf := bnd_eq hf e_w_3
  refine x_iast X Y 1 rfl rfl hi_4 (ws' := (WM Γ Am w_3 kp tx td rf fa fb ap sp iw ig nu lst lwo hh)) (by subst e_w_3; rfl) dX12_adds_22 (fun H locs Y => ?_)
  refine lv_aload_n hx hb dX12_adds_23 rfl (lv_at hl 1 rfl) ?_
  refine gfX12_7 X Y (v := .ref (Am 1)) 0 rfl rfl dX12_adds_24 ?_
  refine lv_iload_n hx hb dX12_adds_27 rfl (lv_at hl 2 rfl) ?_
  refine lv_bipush (v := (14 : Int32)) hx hb dX12_adds_28 (by decide) ?_
  refine lv_iadd hx hb dX12_adds_30 ?_
  refine lv_iload hx hb dX12_adds_31 (lv_at hl 0 rfl) ?_
  refine lv_iadd hx hb dX12_adds_33 ?_
  refine lv_iload_n hx hb dX12_adds_34 rfl (lv_at hl 4 rfl) ?_
  obtain ⟨hi_6, hf⟩ := ck_some hf
  obtain ⟨w_5, e_w_5⟩ : ∃ z : Nat → Int32, z = (upd w_3 ((x1 + (14 : Int32)) + x8_2).toNatClampNeg x3) := ⟨_, rfl⟩
  have hf := bnd_eq hf e_w_5
  refine x_iast X Y 1 rfl rfl hi_6 (ws' := (WM Γ Am w_5 kp tx td rf fa fb ap sp iw ig nu lst lwo hh)) (by subst e_w_5; rfl) dX12_adds_35 (fun H locs Y => ?_)
  refine lv_aload_n hx hb dX12_adds_36 rfl (lv_at hl 1 rfl) ?_
  refine gfX12_7 X Y (v := .ref (Am 1)) 0 rfl rfl dX12_adds_37 ?_
  refine lv_iload_n hx hb dX12_adds_40 rfl (lv_at hl 2 rfl) ?_
  refine lv_bipush (v := (22 : Int32)) hx hb dX12_adds_41 (by decide) ?_
  refine lv_iadd hx hb dX12_adds_43 ?_
  refine lv_iload hx hb dX12_adds_44 (lv_at hl 0 rfl) ?_
  refine lv_iadd hx hb dX12_adds_46 ?_
  refine lv_iload hx hb dX12_adds_47 (lv_at hl 5 rfl) ?_
  obtain ⟨hi_8, hf⟩ := ck_some hf
  obtain ⟨w_7, e_w_7⟩ : ∃ z : Nat → Int32, z = (upd w_5 ((x1 + (22 : Int32)) + x8_2).toNatClampNeg x4) := ⟨_, rfl⟩
  have hf := bnd_eq hf e_w_7
  refine x_iast X Y 1 rfl rfl hi_8 (ws' := (WM Γ Am w_7 kp tx td rf fa fb ap sp iw ig nu lst lwo hh)) (by subst e_w_7; rfl) dX12_adds_49 (fun H locs Y => ?_)
  refine lv_aload_n hx hb dX12_adds_50 rfl (lv_at hl 1 rfl) ?_
  refine gfX12_7 X Y (v := .ref (Am 1)) 0 rfl rfl dX12_adds_51 ?_
  refine lv_iload_n hx hb dX12_adds_54 rfl (lv_at hl 2 rfl) ?_
  refine lv_bipush (v := (30 : Int32)) hx hb dX12_adds_55 (by decide) ?_
  refine lv_iadd hx hb dX12_adds_57 ?_
  refine lv_iload hx hb dX12_adds_58 (lv_at hl 0 rfl) ?_
  refine lv_iadd hx hb dX12_adds_60 ?_
  refine lv_iload hx hb dX12_adds_61 (lv_at hl 6 rfl) ?_
  obtain ⟨hi_10, hf⟩ := ck_some hf
  obtain ⟨w_9, e_w_9⟩ : ∃ z : Nat → Int32, z = (upd w_7 ((x1 + (30 : Int32)) + x8_2).toNatClampNeg x5) := ⟨_, rfl⟩
  have hf := bnd_eq hf e_w_9
  refine x_iast X Y 1 rfl rfl hi_10 (ws' := (WM Γ Am w_9 kp tx td rf fa fb ap sp iw ig nu lst lwo hh)) (by subst e_w_9; rfl) dX12_adds_63 (fun H locs Y => ?_)
  refine lv_aload_n hx hb dX12_adds_64 rfl (lv_at hl 1 rfl) ?_
  refine gfX12_7 X Y (v := .ref (Am 1)) 0 rfl rfl dX12_adds_65 ?_
  refine lv_iload_n hx hb dX12_adds_68 rfl (lv_at hl 2 rfl) ?_
  refine lv_bipush (v := (38 : Int32)) hx hb dX12_adds_69 (by decide) ?_
  refine lv_iadd hx hb dX12_adds_71 ?_
  refine lv_iload hx hb dX12_adds_72 (lv_at hl 0 rfl) ?_
  refine lv_iadd hx hb dX12_adds_74 ?_
  refine lv_iload hx hb dX12_adds_75 (lv_at hl 7 rfl) ?_
  obtain ⟨hi_12, hf⟩ := ck_some hf
  obtain ⟨w_11, e_w_11⟩ : ∃ z : Nat → Int32, z = (upd w_9 ((x1 + (38 : Int32)) + x8_2).toNatClampNeg x6) := ⟨_, rfl⟩
  have hf := bnd_eq hf e_w_11
  refine x_iast X Y 1 rfl rfl hi_12 (ws' := (WM Γ Am w_11 kp tx td rf fa fb ap sp iw ig nu lst lwo hh)) (by subst e_w_11; rfl) dX12_adds_77 (fun H locs Y => ?_)
  refine lv_aload_n hx hb dX12_adds_78 rfl (lv_at hl 1 rfl) ?_
  refine gfX12_7 X Y (v := .ref (Am 1)) 0 rfl rfl dX12_adds_79 ?_
  refine lv_iload_n hx hb dX12_adds_82 rfl (lv_at hl 2 rfl) ?_
  refine lv_bipush (v := (46 : Int32)) hx hb dX12_adds_83 (by decide) ?_
  refine lv_iadd hx hb dX12_adds_85 ?_
  refine lv_iload hx hb dX12_adds_86 (lv_at hl 0 rfl) ?_
  refine lv_iadd hx hb dX12_adds_88 ?_
  refine lv_iload hx hb dX12_adds_89 (lv_at hl 8 rfl) ?_
  obtain ⟨hi_14, hf⟩ := ck_some hf
  obtain ⟨w_13, e_w_13⟩ : ∃ z : Nat → Int32, z = (upd w_11 ((x1 + (46 : Int32)) + x8_2).toNatClampNeg x7) := ⟨_, rfl⟩
  have hf := bnd_eq hf e_w_13
  refine x_iast X Y 1 rfl rfl hi_14 (ws' := (WM Γ Am w_13 kp tx td rf fa fb ap sp iw ig nu lst lwo hh)) (by subst e_w_13; rfl) dX12_adds_91 (fun H locs Y => ?_)
  refine lv_aload_n hx hb dX12_adds_92 rfl (lv_at hl 1 rfl) ?_
  refine gfX12_7 X Y (v := .ref (Am 1)) 0 rfl rfl dX12_adds_93 ?_
  refine lv_iload_n hx hb dX12_adds_96 rfl (lv_at hl 2 rfl) ?_
  refine lv_iconst (v := (5 : Int32)) hx hb dX12_adds_97 (by decide) ?_
  refine lv_iadd hx hb dX12_adds_98 ?_
  refine lv_dup2_11 hx hb dX12_adds_99 rfl rfl ?_
  obtain ⟨hi_15, hf⟩ := ck_some hf
  refine x_iald X Y 1 rfl rfl hi_15 dX12_adds_100 ?_
  refine lv_iconst (v := (1 : Int32)) hx hb dX12_adds_101 (by decide) ?_
  refine lv_iload hx hb dX12_adds_102 (lv_at hl 0 rfl) ?_
  refine lv_ishl hx hb dX12_adds_104 ?_
  refine lv_ior hx hb dX12_adds_105 ?_
  refine lv_topi (fun v_16 e_v_16 => ?_)
  have hf := bnd_eq hf e_v_16
  obtain ⟨hi_18, hf⟩ := ck_some hf
  obtain ⟨w_17, e_w_17⟩ : ∃ z : Nat → Int32, z = (upd w_13 (x1 + (5 : Int32)).toNatClampNeg v_16) := ⟨_, rfl⟩
  have hf := bnd_eq hf e_w_17
  refine x_iast X Y 1 rfl rfl hi_18 (ws' := (WM Γ Am w_17 kp tx td rf fa fb ap sp iw ig nu lst lwo hh)) (by subst e_w_17; rfl) dX12_adds_106 (fun H locs Y => ?_)
  refine lv_aload_n hx hb dX12_adds_107 rfl (lv_at hl 1 rfl) ?_
  refine gfX12_7 X Y (v := .ref (Am 1)) 0 rfl rfl dX12_adds_108 ?_
  refine lv_iload_n hx hb dX12_adds_111 rfl (lv_at hl 2 rfl) ?_
  refine lv_iconst (v := (0 : Int32)) hx hb dX12_adds_112 (by decide) ?_
  refine lv_iadd hx hb dX12_adds_113 ?_
  refine lv_dup2_11 hx hb dX12_adds_114 rfl rfl ?_
  obtain ⟨hi_19, hf⟩ := ck_some hf
  refine x_iald X Y 1 rfl rfl hi_19 dX12_adds_115 ?_
  refine lv_iconst (v := (1 : Int32)) hx hb dX12_adds_116 (by decide) ?_
  refine lv_iadd hx hb dX12_adds_117 ?_
  refine lv_topi (fun v_20 e_v_20 => ?_)
  have hf := bnd_eq hf e_v_20
  obtain ⟨hi_22, hf⟩ := ck_some hf
  obtain ⟨w_21, e_w_21⟩ : ∃ z : Nat → Int32, z = (upd w_17 (x1 + (0 : Int32)).toNatClampNeg v_20) := ⟨_, rfl⟩
  have hf := bnd_eq hf e_w_21
  refine x_iast X Y 1 rfl rfl hi_22 (ws' := (WM Γ Am w_21 kp tx td rf fa fb ap sp iw ig nu lst lwo hh)) (by subst e_w_21; rfl) dX12_adds_118 (fun H locs Y => ?_)
  refine lv_iload hx hb dX12_adds_119 (lv_at hl 0 rfl) ?_
  obtain ⟨e90, e91⟩ := sj2 hf
  subst e90
  subst e91
  exact x_iret X Y dX12_adds_121
theorem cM_adds {l : Launch} {Γ : Gm} {Am : Nat → Nat} {w : Nat → Int32} {kp : Nat → Int32} {tx : Nat → Int32} {td : Int32} {rf : Nat → Int32} {fa : Int64} {fb : Int64} {ap : Int32} {sp : Int32} {iw : Int32} {ig : Int32} {nu : Nat → Int32} {lst : Int32} {lwo : Int32} {hh : Int64} {w_z : Nat → Int32} {r0 : Int32} {x1 : Int32} {x2 : Int32} {x3 : Int32} {x4 : Int32} {x5 : Int32} {x6 : Int32} {x7 : Int32} (h : M_adds x1 x2 x3 x4 x5 x6 x7 w = some (r0, w_z)) : CI l Γ yX12_adds (Cond.code yX12_adds cX12_adds 9 (some .int) :: GW) rmM_adds [.ref (Am 0), .int x1, .int x2, .int x3, .int x4, .int x5, .int x6, .int x7] (WM Γ Am w kp tx td rf fa fb ap sp iw ig nu lst lwo hh) (WM Γ Am w_z kp tx td rf fa fb ap sp iw ig nu lst lwo hh) r0 := ofBody (Qc := QcI Γ _ _ r0) (by decide) (Nat.le_of_ble_eq_true rfl) (fun p e s m below meth c ls _ X Y hl => bM_adds_e X h Y hl)
theorem dmX12_addsV : yX12_adds.cls = RX12 ∧ yX12_adds.cls ≠ "java/lang/invoke/MethodHandle" ∧ yX12_adds.cls ≠ "java/lang/invoke/VarHandle" ∧ (parseMethodDescriptor yX12_adds.desc).map (fun d => d.parameters.length) = some 7 := by decide +kernel
theorem cwX12_63 (X : Cx Γ p s m args meth c RX12 cc nL ret w0) (hR : rmM_adds.frames + 1 ≤ R.frames ∧ 8 + (9 + 11) + rmM_adds.locals ≤ R.locals) : CallW R s args RX12 RX12 63 yX12_adds cX12_adds 9 (some .int) (Cond.code yX12_adds cX12_adds 9 (some .int) :: GW) rmM_adds 0 0 7 := cw_V X kw21 kw22 kw23 kw4 kw24 dmX12_addsV rfl rfl hR
theorem dmX12_fullV : yX12_full.cls = RX12 ∧ yX12_full.cls ≠ "java/lang/invoke/MethodHandle" ∧ yX12_full.cls ≠ "java/lang/invoke/VarHandle" ∧ (parseMethodDescriptor yX12_full.desc).map (fun d => d.parameters.length) = some 0 := by decide +kernel
theorem cwX12_60 (X : Cx Γ p s m args meth c RX12 cc nL ret w0) (hR : rmM_full.frames + 1 ≤ R.frames ∧ 8 + (1 + 11) + rmM_full.locals ≤ R.locals) : CallW R s args RX12 RX12 60 yX12_full cX12_full 1 (some .int) (Cond.code yX12_full cX12_full 1 (some .int) :: GW) rmM_full 0 0 0 := cw_V X kw25 kw26 kw27 kw4 kw28 dmX12_fullV rfl rfl hR
theorem dmX12_isOwnerS : yX12_isOwner.cls ≠ "java/lang/invoke/MethodHandle" ∧ yX12_isOwner.cls ≠ "java/lang/invoke/VarHandle" ∧ (parseMethodDescriptor yX12_isOwner.desc).map (fun d => d.parameters.length) = some 1 := by decide +kernel
theorem cwX12_50 (X : Cx Γ p s m args meth c RX12 cc nL ret w0) (hR : rmM_isOwner.frames + 1 ≤ R.frames ∧ 8 + (1 + 11) + rmM_isOwner.locals ≤ R.locals) : CallB R s args RX12 50 yX12_isOwner cX12_isOwner 1 (some .boolean) (Cond.code yX12_isOwner cX12_isOwner 1 (some .boolean) :: GW) rmM_isOwner 0 0 1 ∧ (Cond.static yX12_isOwner).before args s = true := cw_S X kw29 kw30 kw4 kw31 dmX12_isOwnerS rfl rfl hR
def rmM_goods : Room := { frames := 2, cells := 0, slots := 0, locals := 45 }
def M_goods_70 (w : Nat → Int32) (rf : Nat → Int32) : Option (Int32 × (Nat → Int32) × (Nat → Int32)) := bd2 (M_bad rf) (fun (r_1 : Int32) (rf_2 : Nat → Int32) => some (r_1, w, rf_2))
set_option maxHeartbeats 4000000 in
set_option maxRecDepth 100000 in
theorem bM_goods_70 {Am : Nat → Nat} {w : Nat → Int32} {kp : Nat → Int32} {tx : Nat → Int32} {td : Int32} {rf : Nat → Int32} {fa : Int64} {fb : Int64} {ap : Int32} {sp : Int32} {iw : Int32} {ig : Int32} {nu : Nat → Int32} {lst : Int32} {lwo : Int32} {hh : Int64} {w_z : Nat → Int32} {rf_z : Nat → Int32} {r0 : Int32} (X : Cx Γ p s m args meth c RX12 cX12_goods 7 (some .int) w0) (hf : M_goods_70 w rf = some (r0, w_z, rf_z)) (Y : Wd Γ w0 s (WM Γ Am w kp tx td rf fa fb ap sp iw ig nu lst lwo hh) H locs) (hl : lv_has ls 7 [(0, .ref (Am 0))]) : W p l e rmM_goods s m args below meth c H locs 0 0 (EI Γ below args s w0 (WM Γ Am w_z kp tx td rf_z fa fb ap sp iw ig nu lst lwo hh) r0) (F0 m 70 ls []) := by
  have hx := X.1
  have hb := X.2.1
  refine lv_aload_n hx hb dX12_goods_70 rfl (lv_at hl 0 rfl) ?_
  obtain ⟨r_1, rf_2, ho_3, hf⟩ := bd2_some hf
  refine t_i Y (bkS Y) (r_V (As := []) (rest := []) X (c_preS X Y) (cM_bad ho_3) (cwX12_44 X (by decide)) (va_recv X.K Y.1 (q := (RX12, TX12, 15)) (q0 := 0) (ci := 12) rfl rfl) rfl hl.1 (Nat.le_of_ble_eq_true rfl) rfl dX12_goods_71 ⟨Nat.zero_le _, Nat.zero_le _⟩) (fun H locs Y => ?_)
  obtain ⟨e90, e91, e92⟩ := sj3 hf
  subst e90
  subst e91
  subst e92
  exact x_iret X Y dX12_goods_74
def M_goods (x1 : Int32) (x2 : Int32) (x3 : Int32) (x4 : Int32) (x5 : Int32) (x6 : Int32) (w : Nat → Int32) (rf : Nat → Int32) : Option (Int32 × (Nat → Int32) × (Nat → Int32)) := bd1 (M_in x1.toInt64 (0 : Int64) (5 : Int64)) (fun (r_1 : Int32) => if r_1 = 0 then (M_goods_70 w rf) else (bd1 (M_isOwner x2) (fun (r_3 : Int32) => if r_3 = 0 then (M_goods_70 w rf) else (bd1 (M_in x3.toInt64 (0 : Int64) (2 : Int64)) (fun (r_5 : Int32) => if r_5 = 0 then (M_goods_70 w rf) else (bd1 (M_in x4.toInt64 (1 : Int64) (40 : Int64)) (fun (r_7 : Int32) => if r_7 = 0 then (M_goods_70 w rf) else (bd1 (M_in x5.toInt64 (0 : Int64) (60 : Int64)) (fun (r_9 : Int32) => if r_9 = 0 then (M_goods_70 w rf) else (bd1 (M_in x6.toInt64 (0 : Int64) (60 : Int64)) (fun (r_11 : Int32) => if r_11 = 0 then (M_goods_70 w rf) else (if (w 0) = (8 : Int32) then (bd2 (M_full rf) (fun (r_18 : Int32) (rf_19 : Nat → Int32) => some (r_18, w, rf_19))) else (bnd (upd w 4 (0 : Int32)) (fun (w_14 : Nat → Int32) => bd2 (M_adds (0 : Int32) x1 x2 x3 x4 x5 x6 w_14) (fun (r_15 : Int32) (w_16 : Nat → Int32) => some (r_15, w_16, rf))))))))))))))))
set_option maxHeartbeats 4000000 in
set_option maxRecDepth 100000 in
theorem bM_goods_e {Am : Nat → Nat} {w : Nat → Int32} {kp : Nat → Int32} {tx : Nat → Int32} {td : Int32} {rf : Nat → Int32} {fa : Int64} {fb : Int64} {ap : Int32} {sp : Int32} {iw : Int32} {ig : Int32} {nu : Nat → Int32} {lst : Int32} {lwo : Int32} {hh : Int64} {w_z : Nat → Int32} {rf_z : Nat → Int32} {r0 : Int32} {x1 : Int32} {x2 : Int32} {x3 : Int32} {x4 : Int32} {x5 : Int32} {x6 : Int32} (X : Cx Γ p s m args meth c RX12 cX12_goods 7 (some .int) w0) (hf : M_goods x1 x2 x3 x4 x5 x6 w rf = some (r0, w_z, rf_z)) (Y : Wd Γ w0 s (WM Γ Am w kp tx td rf fa fb ap sp iw ig nu lst lwo hh) H locs) (hl : lv_has ls 7 [(0, .ref (Am 0)), (1, .int x1), (2, .int x2), (3, .int x3), (4, .int x4), (5, .int x5), (6, .int x6)]) : W p l e rmM_goods s m args below meth c H locs 0 0 (EI Γ below args s w0 (WM Γ Am w_z kp tx td rf_z fa fb ap sp iw ig nu lst lwo hh) r0) (F0 m 0 ls []) := by
  have hx := X.1
  have hb := X.2.1
  refine lv_iload_n hx hb dX12_goods_0 rfl (lv_at hl 1 rfl) ?_
  refine lv_i2l (v := x1.toInt64) hx hb dX12_goods_1 rfl ?_
  refine lv_lconst (v := (0 : Int64)) hx hb dX12_goods_2 (by decide) ?_
  refine lv_ldc2 (v := (5 : Int64)) hx hb X.2.2.2.1 (X.2.2.2.2.1 _ kw17) dX12_goods_3 ?_
  obtain ⟨r_1, ho_26, hf⟩ := bd1_some hf
  refine t_i Y (bk0 Y) (r_S (As := [.long x1.toInt64, .long (0 : Int64), .long (5 : Int64)]) (rest := []) X (c_pre0 X Y) (cM_in ho_26) (cwX12_34 X (by decide)) rfl hl.1 (Nat.le_of_ble_eq_true rfl) rfl dX12_goods_6 ⟨Nat.zero_le _, Nat.zero_le _⟩) (fun H locs Y => ?_)
  refine lv_if_eq (tgt := 70) hx hb dX12_goods_9 (by decide) (fun c_2 => ?_) (fun c_2 => ?_)
  · have hf := ite_t hf c_2
    exact bM_goods_70 X hf Y (lv_sub hl [0] rfl)
  · have hf := ite_f hf c_2
    refine lv_iload_n hx hb dX12_goods_12 rfl (lv_at hl 2 rfl) ?_
    obtain ⟨r_3, ho_25, hf⟩ := bd1_some hf
    refine t_i Y (bk0 Y) (r_S (As := [.int x2]) (rest := []) X (c_pre0 X Y) (cM_isOwner ho_25) (cwX12_50 X (by decide)) rfl hl.1 (Nat.le_of_ble_eq_true rfl) rfl dX12_goods_13 ⟨Nat.zero_le _, Nat.zero_le _⟩) (fun H locs Y => ?_)
    refine lv_if_eq (tgt := 70) hx hb dX12_goods_16 (by decide) (fun c_4 => ?_) (fun c_4 => ?_)
    · have hf := ite_t hf c_4
      exact bM_goods_70 X hf Y (lv_sub hl [0] rfl)
    · have hf := ite_f hf c_4
      refine lv_iload_n hx hb dX12_goods_19 rfl (lv_at hl 3 rfl) ?_
      refine lv_i2l (v := x3.toInt64) hx hb dX12_goods_20 rfl ?_
      refine lv_lconst (v := (0 : Int64)) hx hb dX12_goods_21 (by decide) ?_
      refine lv_ldc2 (v := (2 : Int64)) hx hb X.2.2.2.1 (X.2.2.2.2.1 _ kw18) dX12_goods_22 ?_
      obtain ⟨r_5, ho_24, hf⟩ := bd1_some hf
      refine t_i Y (bk0 Y) (r_S (As := [.long x3.toInt64, .long (0 : Int64), .long (2 : Int64)]) (rest := []) X (c_pre0 X Y) (cM_in ho_24) (cwX12_34 X (by decide)) rfl hl.1 (Nat.le_of_ble_eq_true rfl) rfl dX12_goods_25 ⟨Nat.zero_le _, Nat.zero_le _⟩) (fun H locs Y => ?_)
      refine lv_if_eq (tgt := 70) hx hb dX12_goods_28 (by decide) (fun c_6 => ?_) (fun c_6 => ?_)
      · have hf := ite_t hf c_6
        exact bM_goods_70 X hf Y (lv_sub hl [0] rfl)
      · have hf := ite_f hf c_6
        refine lv_iload hx hb dX12_goods_31 (lv_at hl 4 rfl) ?_
        refine lv_i2l (v := x4.toInt64) hx hb dX12_goods_33 rfl ?_
        refine lv_lconst (v := (1 : Int64)) hx hb dX12_goods_34 (by decide) ?_
        refine lv_ldc2 (v := (40 : Int64)) hx hb X.2.2.2.1 (X.2.2.2.2.1 _ kw19) dX12_goods_35 ?_
        obtain ⟨r_7, ho_23, hf⟩ := bd1_some hf
        refine t_i Y (bk0 Y) (r_S (As := [.long x4.toInt64, .long (1 : Int64), .long (40 : Int64)]) (rest := []) X (c_pre0 X Y) (cM_in ho_23) (cwX12_34 X (by decide)) rfl hl.1 (Nat.le_of_ble_eq_true rfl) rfl dX12_goods_38 ⟨Nat.zero_le _, Nat.zero_le _⟩) (fun H locs Y => ?_)
        refine lv_if_eq (tgt := 70) hx hb dX12_goods_41 (by decide) (fun c_8 => ?_) (fun c_8 => ?_)
        · have hf := ite_t hf c_8
          exact bM_goods_70 X hf Y (lv_sub hl [0] rfl)
        · have hf := ite_f hf c_8
          refine lv_iload hx hb dX12_goods_44 (lv_at hl 5 rfl) ?_
          refine lv_i2l (v := x5.toInt64) hx hb dX12_goods_46 rfl ?_
          refine lv_lconst (v := (0 : Int64)) hx hb dX12_goods_47 (by decide) ?_
          refine lv_ldc2 (v := (60 : Int64)) hx hb X.2.2.2.1 (X.2.2.2.2.1 _ kw20) dX12_goods_48 ?_
          obtain ⟨r_9, ho_22, hf⟩ := bd1_some hf
          refine t_i Y (bk0 Y) (r_S (As := [.long x5.toInt64, .long (0 : Int64), .long (60 : Int64)]) (rest := []) X (c_pre0 X Y) (cM_in ho_22) (cwX12_34 X (by decide)) rfl hl.1 (Nat.le_of_ble_eq_true rfl) rfl dX12_goods_51 ⟨Nat.zero_le _, Nat.zero_le _⟩) (fun H locs Y => ?_)
          refine lv_if_eq (tgt := 70) hx hb dX12_goods_54 (by decide) (fun c_10 => ?_) (fun c_10 => ?_)
          · have hf := ite_t hf c_10
            exact bM_goods_70 X hf Y (lv_sub hl [0] rfl)
          · have hf := ite_f hf c_10
            refine lv_iload hx hb dX12_goods_57 (lv_at hl 6 rfl) ?_
            refine lv_i2l (v := x6.toInt64) hx hb dX12_goods_59 rfl ?_
            refine lv_lconst (v := (0 : Int64)) hx hb dX12_goods_60 (by decide) ?_
            refine lv_ldc2 (v := (60 : Int64)) hx hb X.2.2.2.1 (X.2.2.2.2.1 _ kw20) dX12_goods_61 ?_
            obtain ⟨r_11, ho_21, hf⟩ := bd1_some hf
            refine t_i Y (bk0 Y) (r_S (As := [.long x6.toInt64, .long (0 : Int64), .long (60 : Int64)]) (rest := []) X (c_pre0 X Y) (cM_in ho_21) (cwX12_34 X (by decide)) rfl hl.1 (Nat.le_of_ble_eq_true rfl) rfl dX12_goods_64 ⟨Nat.zero_le _, Nat.zero_le _⟩) (fun H locs Y => ?_)
            refine lv_if_ne (tgt := 75) hx hb dX12_goods_67 (by decide) (fun c_12 => ?_) (fun c_12 => ?_)
            · have hf := ite_f hf c_12
              refine lv_aload_n hx hb dX12_goods_75 rfl (lv_at hl 0 rfl) ?_
              refine gfX12_7 X Y (v := .ref (Am 1)) 0 rfl rfl dX12_goods_76 ?_
              refine lv_iconst (v := (0 : Int32)) hx hb dX12_goods_79 (by decide) ?_
              refine x_iald X Y 1 rfl (j := 0) rfl rfl dX12_goods_80 ?_
              refine lv_bipush (v := (8 : Int32)) hx hb dX12_goods_81 (by decide) ?_
              refine lv_icmp_ne (tgt := 91) hx hb dX12_goods_83 (by decide) (fun c_13 => ?_) (fun c_13 => ?_)
              · have hf := ite_f hf c_13
                refine lv_aload_n hx hb dX12_goods_91 rfl (lv_at hl 0 rfl) ?_
                refine gfX12_7 X Y (v := .ref (Am 1)) 0 rfl rfl dX12_goods_92 ?_
                refine lv_iconst (v := (4 : Int32)) hx hb dX12_goods_95 (by decide) ?_
                refine lv_iconst (v := (0 : Int32)) hx hb dX12_goods_96 (by decide) ?_
                obtain ⟨w_14, e_w_14⟩ : ∃ z : Nat → Int32, z = (upd w 4 (0 : Int32)) := ⟨_, rfl⟩
                have hf := bnd_eq hf e_w_14
                refine x_iast X Y 1 rfl (j := 4) rfl rfl (ws' := (WM Γ Am w_14 kp tx td rf fa fb ap sp iw ig nu lst lwo hh)) (by subst e_w_14; rfl) dX12_goods_97 (fun H locs Y => ?_)
                refine lv_aload_n hx hb dX12_goods_98 rfl (lv_at hl 0 rfl) ?_
                refine lv_iconst (v := (0 : Int32)) hx hb dX12_goods_99 (by decide) ?_
                refine lv_iload_n hx hb dX12_goods_100 rfl (lv_at hl 1 rfl) ?_
                refine lv_iload_n hx hb dX12_goods_101 rfl (lv_at hl 2 rfl) ?_
                refine lv_iload_n hx hb dX12_goods_102 rfl (lv_at hl 3 rfl) ?_
                refine lv_iload hx hb dX12_goods_103 (lv_at hl 4 rfl) ?_
                refine lv_iload hx hb dX12_goods_105 (lv_at hl 5 rfl) ?_
                refine lv_iload hx hb dX12_goods_107 (lv_at hl 6 rfl) ?_
                obtain ⟨r_15, w_16, ho_17, hf⟩ := bd2_some hf
                refine t_i Y (bkS Y) (r_V (As := [.int (0 : Int32), .int x1, .int x2, .int x3, .int x4, .int x5, .int x6]) (rest := []) X (c_preS X Y) (cM_adds ho_17) (cwX12_63 X (by decide)) (va_recv X.K Y.1 (q := (RX12, TX12, 15)) (q0 := 0) (ci := 12) rfl rfl) rfl hl.1 (Nat.le_of_ble_eq_true rfl) rfl dX12_goods_109 ⟨Nat.zero_le _, Nat.zero_le _⟩) (fun H locs Y => ?_)
                obtain ⟨e90, e91, e92⟩ := sj3 hf
                subst e90
                subst e91
                subst e92
                exact x_iret X Y dX12_goods_112
              · have hf := ite_t hf c_13
                refine lv_aload_n hx hb dX12_goods_86 rfl (lv_at hl 0 rfl) ?_
                obtain ⟨r_18, rf_19, ho_20, hf⟩ := bd2_some hf
                refine t_i Y (bkS Y) (r_V (As := []) (rest := []) X (c_preS X Y) (cM_full ho_20) (cwX12_60 X (by decide)) (va_recv X.K Y.1 (q := (RX12, TX12, 15)) (q0 := 0) (ci := 12) rfl rfl) rfl hl.1 (Nat.le_of_ble_eq_true rfl) rfl dX12_goods_87 ⟨Nat.zero_le _, Nat.zero_le _⟩) (fun H locs Y => ?_)
                obtain ⟨e90, e91, e92⟩ := sj3 hf
                subst e90
                subst e91
                subst e92
                exact x_iret X Y dX12_goods_90
            · have hf := ite_t hf c_12
              exact bM_goods_70 X hf Y (lv_sub hl [0] rfl)
theorem cM_goods {l : Launch} {Γ : Gm} {Am : Nat → Nat} {w : Nat → Int32} {kp : Nat → Int32} {tx : Nat → Int32} {td : Int32} {rf : Nat → Int32} {fa : Int64} {fb : Int64} {ap : Int32} {sp : Int32} {iw : Int32} {ig : Int32} {nu : Nat → Int32} {lst : Int32} {lwo : Int32} {hh : Int64} {w_z : Nat → Int32} {rf_z : Nat → Int32} {r0 : Int32} {x1 : Int32} {x2 : Int32} {x3 : Int32} {x4 : Int32} {x5 : Int32} {x6 : Int32} (h : M_goods x1 x2 x3 x4 x5 x6 w rf = some (r0, w_z, rf_z)) : CI l Γ yX12_goods (Cond.code yX12_goods cX12_goods 7 (some .int) :: GW) rmM_goods [.ref (Am 0), .int x1, .int x2, .int x3, .int x4, .int x5, .int x6] (WM Γ Am w kp tx td rf fa fb ap sp iw ig nu lst lwo hh) (WM Γ Am w_z kp tx td rf_z fa fb ap sp iw ig nu lst lwo hh) r0 := ofBody (Qc := QcI Γ _ _ r0) (by decide) (Nat.le_of_ble_eq_true rfl) (fun p e s m below meth c ls _ X Y hl => bM_goods_e X h Y hl)
theorem dmX12_isGoodsV : yX12_isGoods.cls = RX12 ∧ yX12_isGoods.cls ≠ "java/lang/invoke/MethodHandle" ∧ yX12_isGoods.cls ≠ "java/lang/invoke/VarHandle" ∧ (parseMethodDescriptor yX12_isGoods.desc).map (fun d => d.parameters.length) = some 1 := by decide +kernel
theorem cwX12_67 (X : Cx Γ p s m args meth c RX12 cc nL ret w0) (hR : rmM_isGoods.frames + 1 ≤ R.frames ∧ 8 + (2 + 11) + rmM_isGoods.locals ≤ R.locals) : CallW R s args RX12 RX12 67 yX12_isGoods cX12_isGoods 2 (some .boolean) (Cond.code yX12_isGoods cX12_isGoods 2 (some .boolean) :: GW) rmM_isGoods 0 0 1 := cw_V X kw32 kw33 kw34 kw4 kw35 dmX12_isGoodsV rfl rfl hR
def rmM_tells : Room := { frames := 2, cells := 0, slots := 0, locals := 46 }
def M_tells_20 (w : Nat → Int32) (rf : Nat → Int32) : Option (Int32 × (Nat → Int32) × (Nat → Int32)) := bd2 (M_bad rf) (fun (r_1 : Int32) (rf_2 : Nat → Int32) => some (r_1, w, rf_2))
set_option maxHeartbeats 4000000 in
set_option maxRecDepth 100000 in
theorem bM_tells_20 {Am : Nat → Nat} {w : Nat → Int32} {kp : Nat → Int32} {tx : Nat → Int32} {td : Int32} {rf : Nat → Int32} {fa : Int64} {fb : Int64} {ap : Int32} {sp : Int32} {iw : Int32} {ig : Int32} {nu : Nat → Int32} {lst : Int32} {lwo : Int32} {hh : Int64} {w_z : Nat → Int32} {rf_z : Nat → Int32} {r0 : Int32} (X : Cx Γ p s m args meth c RX12 cX12_tells 4 (some .int) w0) (hf : M_tells_20 w rf = some (r0, w_z, rf_z)) (Y : Wd Γ w0 s (WM Γ Am w kp tx td rf fa fb ap sp iw ig nu lst lwo hh) H locs) (hl : lv_has ls 4 [(0, .ref (Am 0))]) : W p l e rmM_tells s m args below meth c H locs 0 0 (EI Γ below args s w0 (WM Γ Am w_z kp tx td rf_z fa fb ap sp iw ig nu lst lwo hh) r0) (F0 m 20 ls []) := by
  have hx := X.1
  have hb := X.2.1
  refine lv_aload_n hx hb dX12_tells_20 rfl (lv_at hl 0 rfl) ?_
  obtain ⟨r_1, rf_2, ho_3, hf⟩ := bd2_some hf
  refine t_i Y (bkS Y) (r_V (As := []) (rest := []) X (c_preS X Y) (cM_bad ho_3) (cwX12_44 X (by decide)) (va_recv X.K Y.1 (q := (RX12, TX12, 15)) (q0 := 0) (ci := 12) rfl rfl) rfl hl.1 (Nat.le_of_ble_eq_true rfl) rfl dX12_tells_21 ⟨Nat.zero_le _, Nat.zero_le _⟩) (fun H locs Y => ?_)
  obtain ⟨e90, e91, e92⟩ := sj3 hf
  subst e90
  subst e91
  subst e92
  exact x_iret X Y dX12_tells_24
def M_tells (x1 : Int32) (x2 : Int32) (w : Nat → Int32) (rf : Nat → Int32) : Option (Int32 × (Nat → Int32) × (Nat → Int32)) := bd1 (M_isGoods x1 w) (fun (r_1 : Int32) => if r_1 = 0 then (M_tells_20 w rf) else (bd1 (M_in x2.toInt64 (0 : Int64) (60 : Int64)) (fun (r_3 : Int32) => if r_3 = 0 then (M_tells_20 w rf) else (ck (inb ((46 : Int32) + x1) 320) (bnd (w ((46 : Int32) + x1).toNatClampNeg) (fun (x3_6 : Int32) => ck (inb ((46 : Int32) + x1) 320) (bnd (upd w ((46 : Int32) + x1).toNatClampNeg x2) (fun (w_7 : Nat → Int32) => some (x3_6, w_7, rf)))))))))
set_option maxHeartbeats 4000000 in
set_option maxRecDepth 100000 in
theorem bM_tells_e {Am : Nat → Nat} {w : Nat → Int32} {kp : Nat → Int32} {tx : Nat → Int32} {td : Int32} {rf : Nat → Int32} {fa : Int64} {fb : Int64} {ap : Int32} {sp : Int32} {iw : Int32} {ig : Int32} {nu : Nat → Int32} {lst : Int32} {lwo : Int32} {hh : Int64} {w_z : Nat → Int32} {rf_z : Nat → Int32} {r0 : Int32} {x1 : Int32} {x2 : Int32} (X : Cx Γ p s m args meth c RX12 cX12_tells 4 (some .int) w0) (hf : M_tells x1 x2 w rf = some (r0, w_z, rf_z)) (Y : Wd Γ w0 s (WM Γ Am w kp tx td rf fa fb ap sp iw ig nu lst lwo hh) H locs) (hl : lv_has ls 4 [(0, .ref (Am 0)), (1, .int x1), (2, .int x2)]) : W p l e rmM_tells s m args below meth c H locs 0 0 (EI Γ below args s w0 (WM Γ Am w_z kp tx td rf_z fa fb ap sp iw ig nu lst lwo hh) r0) (F0 m 0 ls []) := by
  have hx := X.1
  have hb := X.2.1
  refine lv_aload_n hx hb dX12_tells_0 rfl (lv_at hl 0 rfl) ?_
  refine lv_iload_n hx hb dX12_tells_1 rfl (lv_at hl 1 rfl) ?_
  obtain ⟨r_1, ho_10, hf⟩ := bd1_some hf
  refine t_i Y (bkS Y) (r_V (As := [.int x1]) (rest := []) X (c_preS X Y) (cM_isGoods ho_10) (cwX12_67 X (by decide)) (va_recv X.K Y.1 (q := (RX12, TX12, 15)) (q0 := 0) (ci := 12) rfl rfl) rfl hl.1 (Nat.le_of_ble_eq_true rfl) rfl dX12_tells_2 ⟨Nat.zero_le _, Nat.zero_le _⟩) (fun H locs Y => ?_)
  refine lv_if_eq (tgt := 20) hx hb dX12_tells_5 (by decide) (fun c_2 => ?_) (fun c_2 => ?_)
  · have hf := ite_t hf c_2
    exact bM_tells_20 X hf Y (lv_sub hl [0] rfl)
  · have hf := ite_f hf c_2
    refine lv_iload_n hx hb dX12_tells_8 rfl (lv_at hl 2 rfl) ?_
    refine lv_i2l (v := x2.toInt64) hx hb dX12_tells_9 rfl ?_
    refine lv_lconst (v := (0 : Int64)) hx hb dX12_tells_10 (by decide) ?_
    refine lv_ldc2 (v := (60 : Int64)) hx hb X.2.2.2.1 (X.2.2.2.2.1 _ kw20) dX12_tells_11 ?_
    obtain ⟨r_3, ho_9, hf⟩ := bd1_some hf
    refine t_i Y (bk0 Y) (r_S (As := [.long x2.toInt64, .long (0 : Int64), .long (60 : Int64)]) (rest := []) X (c_pre0 X Y) (cM_in ho_9) (cwX12_34 X (by decide)) rfl hl.1 (Nat.le_of_ble_eq_true rfl) rfl dX12_tells_14 ⟨Nat.zero_le _, Nat.zero_le _⟩) (fun H locs Y => ?_)
    refine lv_if_ne (tgt := 25) hx hb dX12_tells_17 (by decide) (fun c_4 => ?_) (fun c_4 => ?_)
    · have hf := ite_f hf c_4
      refine lv_aload_n hx hb dX12_tells_25 rfl (lv_at hl 0 rfl) ?_
      refine gfX12_7 X Y (v := .ref (Am 1)) 0 rfl rfl dX12_tells_26 ?_
      refine lv_bipush (v := (46 : Int32)) hx hb dX12_tells_29 (by decide) ?_
      refine lv_iload_n hx hb dX12_tells_31 rfl (lv_at hl 1 rfl) ?_
      refine lv_iadd hx hb dX12_tells_32 ?_
      obtain ⟨hi_5, hf⟩ := ck_some hf
      refine x_iald X Y 1 rfl rfl hi_5 dX12_tells_33 ?_
      refine lv_topi (fun x3_6 e_x3_6 => ?_)
      have hf := bnd_eq hf e_x3_6
      refine lv_istore_n (lv' := [(3, .int x3_6), (0, .ref (Am 0)), (1, .int x1), (2, .int x2)]) hx hb dX12_tells_34 rfl hl (by decide) rfl (fun ls hl => ?_)
      refine lv_aload_n hx hb dX12_tells_35 rfl (lv_at hl 1 rfl) ?_
      refine gfX12_7 X Y (v := .ref (Am 1)) 0 rfl rfl dX12_tells_36 ?_
      refine lv_bipush (v := (46 : Int32)) hx hb dX12_tells_39 (by decide) ?_
      refine lv_iload_n hx hb dX12_tells_41 rfl (lv_at hl 2 rfl) ?_
      refine lv_iadd hx hb dX12_tells_42 ?_
      refine lv_iload_n hx hb dX12_tells_43 rfl (lv_at hl 3 rfl) ?_
      obtain ⟨hi_8, hf⟩ := ck_some hf
      obtain ⟨w_7, e_w_7⟩ : ∃ z : Nat → Int32, z = (upd w ((46 : Int32) + x1).toNatClampNeg x2) := ⟨_, rfl⟩
      have hf := bnd_eq hf e_w_7
      refine x_iast X Y 1 rfl rfl hi_8 (ws' := (WM Γ Am w_7 kp tx td rf fa fb ap sp iw ig nu lst lwo hh)) (by subst e_w_7; rfl) dX12_tells_44 (fun H locs Y => ?_)
      refine lv_iload_n hx hb dX12_tells_45 rfl (lv_at hl 0 rfl) ?_
      obtain ⟨e90, e91, e92⟩ := sj3 hf
      subst e90
      subst e91
      subst e92
      exact x_iret X Y dX12_tells_46
    · have hf := ite_t hf c_4
      exact bM_tells_20 X hf Y (lv_sub hl [0] rfl)
theorem cM_tells {l : Launch} {Γ : Gm} {Am : Nat → Nat} {w : Nat → Int32} {kp : Nat → Int32} {tx : Nat → Int32} {td : Int32} {rf : Nat → Int32} {fa : Int64} {fb : Int64} {ap : Int32} {sp : Int32} {iw : Int32} {ig : Int32} {nu : Nat → Int32} {lst : Int32} {lwo : Int32} {hh : Int64} {w_z : Nat → Int32} {rf_z : Nat → Int32} {r0 : Int32} {x1 : Int32} {x2 : Int32} (h : M_tells x1 x2 w rf = some (r0, w_z, rf_z)) : CI l Γ yX12_tells (Cond.code yX12_tells cX12_tells 4 (some .int) :: GW) rmM_tells [.ref (Am 0), .int x1, .int x2] (WM Γ Am w kp tx td rf fa fb ap sp iw ig nu lst lwo hh) (WM Γ Am w_z kp tx td rf_z fa fb ap sp iw ig nu lst lwo hh) r0 := ofBody (Qc := QcI Γ _ _ r0) (by decide) (Nat.le_of_ble_eq_true rfl) (fun p e s m below meth c ls _ X Y hl => bM_tells_e X h Y hl)
theorem dmX12_hasS : yX12_has.cls ≠ "java/lang/invoke/MethodHandle" ∧ yX12_has.cls ≠ "java/lang/invoke/VarHandle" ∧ (parseMethodDescriptor yX12_has.desc).map (fun d => d.parameters.length) = some 2 := by decide +kernel
theorem cwX12_70 (X : Cx Γ p s m args meth c RX12 cc nL ret w0) (hR : rmM_has.frames + 1 ≤ R.frames ∧ 8 + (2 + 11) + rmM_has.locals ≤ R.locals) : CallB R s args RX12 70 yX12_has cX12_has 2 (some .boolean) (Cond.code yX12_has cX12_has 2 (some .boolean) :: GW) rmM_has 0 0 2 ∧ (Cond.static yX12_has).before args s = true := cw_S X kw36 kw37 kw4 kw38 dmX12_hasS rfl rfl hR
def rmM_isTop : Room := { frames := 1, cells := 0, slots := 0, locals := 21 }
def M_isTop_97 (rc34 : Int32 → Int32 → Int32 → Int32 → Int32 → Int32 → Int32 → Int32 → (Nat → Int32) → Option (Int32)) (x1 : Int32) (x2 : Int32) (x3 : Int32) (x4 : Int32) (x5 : Int32) (x6 : Int32) (x7 : Int32) (x8 : Int32) (x9 : Int32) (y0 : Int32) (w : Nat → Int32) : Option (Int32) := if x7 = 0 then (bnd (x8 + (1 : Int32)) (fun (x8_2 : Int32) => rc34 x1 x2 x3 x4 x5 x6 (0 : Int32) x8_2 w)) else (if x8 = x3 then (bnd (x8 + (1 : Int32)) (fun (x8_4 : Int32) => rc34 x1 x2 x3 x4 x5 x6 (1 : Int32) x8_4 w)) else (bd1 (M_has x2 x8) (fun (r_5 : Int32) => if r_5 = 0 then (bnd (x8 + (1 : Int32)) (fun (x8_7 : Int32) => rc34 x1 x2 x3 x4 x5 x6 (1 : Int32) x8_7 w)) else (if x9 = x6 then (if y0 = 0 then (bnd (x8 + (1 : Int32)) (fun (x8_12 : Int32) => rc34 x1 x2 x3 x4 x5 x6 (1 : Int32) x8_12 w)) else (bnd (x8 + (1 : Int32)) (fun (x8_11 : Int32) => rc34 x1 x2 x3 x4 x5 x6 (0 : Int32) x8_11 w))) else (bnd (x8 + (1 : Int32)) (fun (x8_9 : Int32) => rc34 x1 x2 x3 x4 x5 x6 (1 : Int32) x8_9 w))))))
set_option maxHeartbeats 4000000 in
set_option maxRecDepth 100000 in
theorem bM_isTop_97 {Am : Nat → Nat} {w : Nat → Int32} {kp : Nat → Int32} {tx : Nat → Int32} {td : Int32} {rf : Nat → Int32} {fa : Int64} {fb : Int64} {ap : Int32} {sp : Int32} {iw : Int32} {ig : Int32} {nu : Nat → Int32} {lst : Int32} {lwo : Int32} {hh : Int64} {r0 : Int32} {x1 : Int32} {x2 : Int32} {x3 : Int32} {x4 : Int32} {x5 : Int32} {x6 : Int32} {x7 : Int32} {x8 : Int32} {x9 : Int32} {y0 : Int32} {rc34 : Int32 → Int32 → Int32 → Int32 → Int32 → Int32 → Int32 → Int32 → (Nat → Int32) → Option (Int32)} (X : Cx Γ p s m args meth c RX12 cX12_isTop 11 (some .boolean) w0) (h34 : ∀ (x1 : Int32) (x2 : Int32) (x3 : Int32) (x4 : Int32) (x5 : Int32) (x6 : Int32) (x7 : Int32) (x8 : Int32) (w : Nat → Int32), rc34 x1 x2 x3 x4 x5 x6 x7 x8 w = some r0 → ∀ (H : Heap) (locs : List Loc) (ls : Array Slot), Wd Γ w0 s (WM Γ Am w kp tx td rf fa fb ap sp iw ig nu lst lwo hh) H locs → lv_has ls 11 [(0, .ref (Am 0)), (1, .int x1), (2, .int x2), (3, .int x3), (4, .int x4), (5, .int x5), (6, .int x6), (7, .int x7), (8, .int x8)] → W p l e rmM_isTop s m args below meth c H locs 0 0 (EI Γ below args s w0 (WM Γ Am w kp tx td rf fa fb ap sp iw ig nu lst lwo hh) r0) (F0 m 34 ls [])) (hf : M_isTop_97 rc34 x1 x2 x3 x4 x5 x6 x7 x8 x9 y0 w = some r0) (Y : Wd Γ w0 s (WM Γ Am w kp tx td rf fa fb ap sp iw ig nu lst lwo hh) H locs) (hl : lv_has ls 11 [(0, .ref (Am 0)), (1, .int x1), (2, .int x2), (3, .int x3), (4, .int x4), (5, .int x5), (6, .int x6), (7, .int x7), (8, .int x8), (9, .int x9)]) : W p l e rmM_isTop s m args below meth c H locs 0 0 (EI Γ below args s w0 (WM Γ Am w kp tx td rf fa fb ap sp iw ig nu lst lwo hh) r0) (F0 m 97 ls [.int y0]) := by
  have hx := X.1
  have hb := X.2.1
  refine lv_istore (lv' := [(10, .int y0), (0, .ref (Am 0)), (1, .int x1), (2, .int x2), (3, .int x3), (4, .int x4), (5, .int x5), (6, .int x6), (7, .int x7), (8, .int x8), (9, .int x9)]) hx hb dX12_isTop_97 hl (by decide) rfl (fun ls hl => ?_)
  refine lv_iload hx hb dX12_isTop_99 (lv_at hl 8 rfl) ?_
  refine lv_if_eq (tgt := 135) hx hb dX12_isTop_101 (by decide) (fun c_1 => ?_) (fun c_1 => ?_)
  · have hf := ite_t hf c_1
    refine lv_iconst (v := (0 : Int32)) hx hb dX12_isTop_135 (by decide) ?_
    refine lv_istore (lv' := [(7, .int (0 : Int32)), (10, .int y0), (0, .ref (Am 0)), (1, .int x1), (2, .int x2), (3, .int x3), (4, .int x4), (5, .int x5), (6, .int x6), (8, .int x8), (9, .int x9)]) hx hb dX12_isTop_136 hl (by decide) rfl (fun ls hl => ?_)
    obtain ⟨x8_2, e_x8_2⟩ : ∃ z : Int32, z = (x8 + (1 : Int32)) := ⟨_, rfl⟩
    have hf := bnd_eq hf e_x8_2
    refine lv_iinc (v := x8_2) (lv' := [(8, .int x8_2), (7, .int (0 : Int32)), (10, .int y0), (0, .ref (Am 0)), (1, .int x1), (2, .int x2), (3, .int x3), (4, .int x4), (5, .int x5), (6, .int x6), (9, .int x9)]) hx hb dX12_isTop_138 hl (k := 9) rfl (by rw [e_x8_2]; rfl) (by decide) rfl (fun ls hl => ?_)
    refine lv_goto (tgt := 34) hx hb dX12_isTop_141 (by decide) ?_
    exact h34 _ _ _ _ _ _ _ _ _ hf _ _ _ Y (lv_sub hl [3, 4, 5, 6, 7, 8, 9, 1, 0] rfl)
  · have hf := ite_f hf c_1
    refine lv_iload hx hb dX12_isTop_104 (lv_at hl 9 rfl) ?_
    refine lv_iload_n hx hb dX12_isTop_106 rfl (lv_at hl 4 rfl) ?_
    refine lv_icmp_eq (tgt := 131) hx hb dX12_isTop_107 (by decide) (fun c_3 => ?_) (fun c_3 => ?_)
    · have hf := ite_t hf c_3
      refine lv_iconst (v := (1 : Int32)) hx hb dX12_isTop_131 (by decide) ?_
      refine lv_goto (tgt := 136) hx hb dX12_isTop_132 (by decide) ?_
      refine lv_istore (lv' := [(7, .int (1 : Int32)), (10, .int y0), (0, .ref (Am 0)), (1, .int x1), (2, .int x2), (3, .int x3), (4, .int x4), (5, .int x5), (6, .int x6), (8, .int x8), (9, .int x9)]) hx hb dX12_isTop_136 hl (by decide) rfl (fun ls hl => ?_)
      obtain ⟨x8_4, e_x8_4⟩ : ∃ z : Int32, z = (x8 + (1 : Int32)) := ⟨_, rfl⟩
      have hf := bnd_eq hf e_x8_4
      refine lv_iinc (v := x8_4) (lv' := [(8, .int x8_4), (7, .int (1 : Int32)), (10, .int y0), (0, .ref (Am 0)), (1, .int x1), (2, .int x2), (3, .int x3), (4, .int x4), (5, .int x5), (6, .int x6), (9, .int x9)]) hx hb dX12_isTop_138 hl (k := 9) rfl (by rw [e_x8_4]; rfl) (by decide) rfl (fun ls hl => ?_)
      refine lv_goto (tgt := 34) hx hb dX12_isTop_141 (by decide) ?_
      exact h34 _ _ _ _ _ _ _ _ _ hf _ _ _ Y (lv_sub hl [3, 4, 5, 6, 7, 8, 9, 1, 0] rfl)
    · have hf := ite_f hf c_3
      refine lv_iload_n hx hb dX12_isTop_110 rfl (lv_at hl 3 rfl) ?_
      refine lv_iload hx hb dX12_isTop_111 (lv_at hl 9 rfl) ?_
      obtain ⟨r_5, ho_13, hf⟩ := bd1_some hf
      refine t_i Y (bk0 Y) (r_S (As := [.int x2, .int x8]) (rest := []) X (c_pre0 X Y) (cM_has ho_13) (cwX12_70 X (by decide)) rfl hl.1 (Nat.le_of_ble_eq_true rfl) rfl dX12_isTop_113 ⟨Nat.zero_le _, Nat.zero_le _⟩) (fun H locs Y => ?_)
      refine lv_if_eq (tgt := 131) hx hb dX12_isTop_116 (by decide) (fun c_6 => ?_) (fun c_6 => ?_)
      · have hf := ite_t hf c_6
        refine lv_iconst (v := (1 : Int32)) hx hb dX12_isTop_131 (by decide) ?_
        refine lv_goto (tgt := 136) hx hb dX12_isTop_132 (by decide) ?_
        refine lv_istore (lv' := [(7, .int (1 : Int32)), (10, .int y0), (0, .ref (Am 0)), (1, .int x1), (2, .int x2), (3, .int x3), (4, .int x4), (5, .int x5), (6, .int x6), (8, .int x8), (9, .int x9)]) hx hb dX12_isTop_136 hl (by decide) rfl (fun ls hl => ?_)
        obtain ⟨x8_7, e_x8_7⟩ : ∃ z : Int32, z = (x8 + (1 : Int32)) := ⟨_, rfl⟩
        have hf := bnd_eq hf e_x8_7
        refine lv_iinc (v := x8_7) (lv' := [(8, .int x8_7), (7, .int (1 : Int32)), (10, .int y0), (0, .ref (Am 0)), (1, .int x1), (2, .int x2), (3, .int x3), (4, .int x4), (5, .int x5), (6, .int x6), (9, .int x9)]) hx hb dX12_isTop_138 hl (k := 9) rfl (by rw [e_x8_7]; rfl) (by decide) rfl (fun ls hl => ?_)
        refine lv_goto (tgt := 34) hx hb dX12_isTop_141 (by decide) ?_
        exact h34 _ _ _ _ _ _ _ _ _ hf _ _ _ Y (lv_sub hl [3, 4, 5, 6, 7, 8, 9, 1, 0] rfl)
      · have hf := ite_f hf c_6
        refine lv_iload hx hb dX12_isTop_119 (lv_at hl 10 rfl) ?_
        refine lv_iload hx hb dX12_isTop_121 (lv_at hl 7 rfl) ?_
        refine lv_icmp_ne (tgt := 131) hx hb dX12_isTop_123 (by decide) (fun c_8 => ?_) (fun c_8 => ?_)
        · have hf := ite_f hf c_8
          refine lv_iconst (v := (1 : Int32)) hx hb dX12_isTop_131 (by decide) ?_
          refine lv_goto (tgt := 136) hx hb dX12_isTop_132 (by decide) ?_
          refine lv_istore (lv' := [(7, .int (1 : Int32)), (10, .int y0), (0, .ref (Am 0)), (1, .int x1), (2, .int x2), (3, .int x3), (4, .int x4), (5, .int x5), (6, .int x6), (8, .int x8), (9, .int x9)]) hx hb dX12_isTop_136 hl (by decide) rfl (fun ls hl => ?_)
          obtain ⟨x8_9, e_x8_9⟩ : ∃ z : Int32, z = (x8 + (1 : Int32)) := ⟨_, rfl⟩
          have hf := bnd_eq hf e_x8_9
          refine lv_iinc (v := x8_9) (lv' := [(8, .int x8_9), (7, .int (1 : Int32)), (10, .int y0), (0, .ref (Am 0)), (1, .int x1), (2, .int x2), (3, .int x3), (4, .int x4), (5, .int x5), (6, .int x6), (9, .int x9)]) hx hb dX12_isTop_138 hl (k := 9) rfl (by rw [e_x8_9]; rfl) (by decide) rfl (fun ls hl => ?_)
          refine lv_goto (tgt := 34) hx hb dX12_isTop_141 (by decide) ?_
          exact h34 _ _ _ _ _ _ _ _ _ hf _ _ _ Y (lv_sub hl [3, 4, 5, 6, 7, 8, 9, 1, 0] rfl)
        · have hf := ite_t hf c_8
          refine lv_iload hx hb dX12_isTop_126 (lv_at hl 0 rfl) ?_
          refine lv_if_ne (tgt := 135) hx hb dX12_isTop_128 (by decide) (fun c_10 => ?_) (fun c_10 => ?_)
          · have hf := ite_f hf c_10
            refine lv_iconst (v := (0 : Int32)) hx hb dX12_isTop_135 (by decide) ?_
            refine lv_istore (lv' := [(7, .int (0 : Int32)), (10, .int y0), (0, .ref (Am 0)), (1, .int x1), (2, .int x2), (3, .int x3), (4, .int x4), (5, .int x5), (6, .int x6), (8, .int x8), (9, .int x9)]) hx hb dX12_isTop_136 hl (by decide) rfl (fun ls hl => ?_)
            obtain ⟨x8_11, e_x8_11⟩ : ∃ z : Int32, z = (x8 + (1 : Int32)) := ⟨_, rfl⟩
            have hf := bnd_eq hf e_x8_11
            refine lv_iinc (v := x8_11) (lv' := [(8, .int x8_11), (7, .int (0 : Int32)), (10, .int y0), (0, .ref (Am 0)), (1, .int x1), (2, .int x2), (3, .int x3), (4, .int x4), (5, .int x5), (6, .int x6), (9, .int x9)]) hx hb dX12_isTop_138 hl (k := 9) rfl (by rw [e_x8_11]; rfl) (by decide) rfl (fun ls hl => ?_)
            refine lv_goto (tgt := 34) hx hb dX12_isTop_141 (by decide) ?_
            exact h34 _ _ _ _ _ _ _ _ _ hf _ _ _ Y (lv_sub hl [3, 4, 5, 6, 7, 8, 9, 1, 0] rfl)
          · have hf := ite_t hf c_10
            refine lv_iconst (v := (1 : Int32)) hx hb dX12_isTop_131 (by decide) ?_
            refine lv_goto (tgt := 136) hx hb dX12_isTop_132 (by decide) ?_
            refine lv_istore (lv' := [(7, .int (1 : Int32)), (10, .int y0), (0, .ref (Am 0)), (1, .int x1), (2, .int x2), (3, .int x3), (4, .int x4), (5, .int x5), (6, .int x6), (8, .int x8), (9, .int x9)]) hx hb dX12_isTop_136 hl (by decide) rfl (fun ls hl => ?_)
            obtain ⟨x8_12, e_x8_12⟩ : ∃ z : Int32, z = (x8 + (1 : Int32)) := ⟨_, rfl⟩
            have hf := bnd_eq hf e_x8_12
            refine lv_iinc (v := x8_12) (lv' := [(8, .int x8_12), (7, .int (1 : Int32)), (10, .int y0), (0, .ref (Am 0)), (1, .int x1), (2, .int x2), (3, .int x3), (4, .int x4), (5, .int x5), (6, .int x6), (9, .int x9)]) hx hb dX12_isTop_138 hl (k := 9) rfl (by rw [e_x8_12]; rfl) (by decide) rfl (fun ls hl => ?_)
            refine lv_goto (tgt := 34) hx hb dX12_isTop_141 (by decide) ?_
            exact h34 _ _ _ _ _ _ _ _ _ hf _ _ _ Y (lv_sub hl [3, 4, 5, 6, 7, 8, 9, 1, 0] rfl)
def M_isTop_92 (rc34 : Int32 → Int32 → Int32 → Int32 → Int32 → Int32 → Int32 → Int32 → (Nat → Int32) → Option (Int32)) (x1 : Int32) (x2 : Int32) (x3 : Int32) (x4 : Int32) (x5 : Int32) (x6 : Int32) (x7 : Int32) (x8 : Int32) (x9 : Int32) (w : Nat → Int32) : Option (Int32) := M_isTop_97 rc34 x1 x2 x3 x4 x5 x6 x7 x8 x9 (1 : Int32) w
set_option maxHeartbeats 4000000 in
set_option maxRecDepth 100000 in
theorem bM_isTop_92 {Am : Nat → Nat} {w : Nat → Int32} {kp : Nat → Int32} {tx : Nat → Int32} {td : Int32} {rf : Nat → Int32} {fa : Int64} {fb : Int64} {ap : Int32} {sp : Int32} {iw : Int32} {ig : Int32} {nu : Nat → Int32} {lst : Int32} {lwo : Int32} {hh : Int64} {r0 : Int32} {x1 : Int32} {x2 : Int32} {x3 : Int32} {x4 : Int32} {x5 : Int32} {x6 : Int32} {x7 : Int32} {x8 : Int32} {x9 : Int32} {rc34 : Int32 → Int32 → Int32 → Int32 → Int32 → Int32 → Int32 → Int32 → (Nat → Int32) → Option (Int32)} (X : Cx Γ p s m args meth c RX12 cX12_isTop 11 (some .boolean) w0) (h34 : ∀ (x1 : Int32) (x2 : Int32) (x3 : Int32) (x4 : Int32) (x5 : Int32) (x6 : Int32) (x7 : Int32) (x8 : Int32) (w : Nat → Int32), rc34 x1 x2 x3 x4 x5 x6 x7 x8 w = some r0 → ∀ (H : Heap) (locs : List Loc) (ls : Array Slot), Wd Γ w0 s (WM Γ Am w kp tx td rf fa fb ap sp iw ig nu lst lwo hh) H locs → lv_has ls 11 [(0, .ref (Am 0)), (1, .int x1), (2, .int x2), (3, .int x3), (4, .int x4), (5, .int x5), (6, .int x6), (7, .int x7), (8, .int x8)] → W p l e rmM_isTop s m args below meth c H locs 0 0 (EI Γ below args s w0 (WM Γ Am w kp tx td rf fa fb ap sp iw ig nu lst lwo hh) r0) (F0 m 34 ls [])) (hf : M_isTop_92 rc34 x1 x2 x3 x4 x5 x6 x7 x8 x9 w = some r0) (Y : Wd Γ w0 s (WM Γ Am w kp tx td rf fa fb ap sp iw ig nu lst lwo hh) H locs) (hl : lv_has ls 11 [(0, .ref (Am 0)), (1, .int x1), (2, .int x2), (3, .int x3), (4, .int x4), (5, .int x5), (6, .int x6), (7, .int x7), (8, .int x8), (9, .int x9)]) : W p l e rmM_isTop s m args below meth c H locs 0 0 (EI Γ below args s w0 (WM Γ Am w kp tx td rf fa fb ap sp iw ig nu lst lwo hh) r0) (F0 m 92 ls []) := by
  have hx := X.1
  have hb := X.2.1
  refine lv_iconst (v := (1 : Int32)) hx hb dX12_isTop_92 (by decide) ?_
  refine lv_goto (tgt := 97) hx hb dX12_isTop_93 (by decide) ?_
  exact bM_isTop_97 X h34 hf Y (lv_sub hl [0, 1, 2, 3, 4, 5, 6, 7, 8, 9] rfl)
def M_isTop_96 (rc34 : Int32 → Int32 → Int32 → Int32 → Int32 → Int32 → Int32 → Int32 → (Nat → Int32) → Option (Int32)) (x1 : Int32) (x2 : Int32) (x3 : Int32) (x4 : Int32) (x5 : Int32) (x6 : Int32) (x7 : Int32) (x8 : Int32) (x9 : Int32) (w : Nat → Int32) : Option (Int32) := M_isTop_97 rc34 x1 x2 x3 x4 x5 x6 x7 x8 x9 (0 : Int32) w
set_option maxHeartbeats 4000000 in
set_option maxRecDepth 100000 in
theorem bM_isTop_96 {Am : Nat → Nat} {w : Nat → Int32} {kp : Nat → Int32} {tx : Nat → Int32} {td : Int32} {rf : Nat → Int32} {fa : Int64} {fb : Int64} {ap : Int32} {sp : Int32} {iw : Int32} {ig : Int32} {nu : Nat → Int32} {lst : Int32} {lwo : Int32} {hh : Int64} {r0 : Int32} {x1 : Int32} {x2 : Int32} {x3 : Int32} {x4 : Int32} {x5 : Int32} {x6 : Int32} {x7 : Int32} {x8 : Int32} {x9 : Int32} {rc34 : Int32 → Int32 → Int32 → Int32 → Int32 → Int32 → Int32 → Int32 → (Nat → Int32) → Option (Int32)} (X : Cx Γ p s m args meth c RX12 cX12_isTop 11 (some .boolean) w0) (h34 : ∀ (x1 : Int32) (x2 : Int32) (x3 : Int32) (x4 : Int32) (x5 : Int32) (x6 : Int32) (x7 : Int32) (x8 : Int32) (w : Nat → Int32), rc34 x1 x2 x3 x4 x5 x6 x7 x8 w = some r0 → ∀ (H : Heap) (locs : List Loc) (ls : Array Slot), Wd Γ w0 s (WM Γ Am w kp tx td rf fa fb ap sp iw ig nu lst lwo hh) H locs → lv_has ls 11 [(0, .ref (Am 0)), (1, .int x1), (2, .int x2), (3, .int x3), (4, .int x4), (5, .int x5), (6, .int x6), (7, .int x7), (8, .int x8)] → W p l e rmM_isTop s m args below meth c H locs 0 0 (EI Γ below args s w0 (WM Γ Am w kp tx td rf fa fb ap sp iw ig nu lst lwo hh) r0) (F0 m 34 ls [])) (hf : M_isTop_96 rc34 x1 x2 x3 x4 x5 x6 x7 x8 x9 w = some r0) (Y : Wd Γ w0 s (WM Γ Am w kp tx td rf fa fb ap sp iw ig nu lst lwo hh) H locs) (hl : lv_has ls 11 [(0, .ref (Am 0)), (1, .int x1), (2, .int x2), (3, .int x3), (4, .int x4), (5, .int x5), (6, .int x6), (7, .int x7), (8, .int x8), (9, .int x9)]) : W p l e rmM_isTop s m args below meth c H locs 0 0 (EI Γ below args s w0 (WM Γ Am w kp tx td rf fa fb ap sp iw ig nu lst lwo hh) r0) (F0 m 96 ls []) := by
  have hx := X.1
  have hb := X.2.1
  refine lv_iconst (v := (0 : Int32)) hx hb dX12_isTop_96 (by decide) ?_
  exact bM_isTop_97 X h34 hf Y (lv_sub hl [0, 1, 2, 3, 4, 5, 6, 7, 8, 9] rfl)
def M_isTop_71 (rc34 : Int32 → Int32 → Int32 → Int32 → Int32 → Int32 → Int32 → Int32 → (Nat → Int32) → Option (Int32)) (x1 : Int32) (x2 : Int32) (x3 : Int32) (x4 : Int32) (x5 : Int32) (x6 : Int32) (x7 : Int32) (x8 : Int32) (y0 : Int32) (w : Nat → Int32) : Option (Int32) := if x8 = x4 then (M_isTop_92 rc34 x1 x2 x3 x4 x5 x6 x7 x8 y0 w) else (if x3 = x4 then (M_isTop_96 rc34 x1 x2 x3 x4 x5 x6 x7 x8 y0 w) else (if x8 ≤ x3 then (M_isTop_96 rc34 x1 x2 x3 x4 x5 x6 x7 x8 y0 w) else (M_isTop_92 rc34 x1 x2 x3 x4 x5 x6 x7 x8 y0 w)))
set_option maxHeartbeats 4000000 in
set_option maxRecDepth 100000 in
theorem bM_isTop_71 {Am : Nat → Nat} {w : Nat → Int32} {kp : Nat → Int32} {tx : Nat → Int32} {td : Int32} {rf : Nat → Int32} {fa : Int64} {fb : Int64} {ap : Int32} {sp : Int32} {iw : Int32} {ig : Int32} {nu : Nat → Int32} {lst : Int32} {lwo : Int32} {hh : Int64} {r0 : Int32} {x1 : Int32} {x2 : Int32} {x3 : Int32} {x4 : Int32} {x5 : Int32} {x6 : Int32} {x7 : Int32} {x8 : Int32} {y0 : Int32} {rc34 : Int32 → Int32 → Int32 → Int32 → Int32 → Int32 → Int32 → Int32 → (Nat → Int32) → Option (Int32)} (X : Cx Γ p s m args meth c RX12 cX12_isTop 11 (some .boolean) w0) (h34 : ∀ (x1 : Int32) (x2 : Int32) (x3 : Int32) (x4 : Int32) (x5 : Int32) (x6 : Int32) (x7 : Int32) (x8 : Int32) (w : Nat → Int32), rc34 x1 x2 x3 x4 x5 x6 x7 x8 w = some r0 → ∀ (H : Heap) (locs : List Loc) (ls : Array Slot), Wd Γ w0 s (WM Γ Am w kp tx td rf fa fb ap sp iw ig nu lst lwo hh) H locs → lv_has ls 11 [(0, .ref (Am 0)), (1, .int x1), (2, .int x2), (3, .int x3), (4, .int x4), (5, .int x5), (6, .int x6), (7, .int x7), (8, .int x8)] → W p l e rmM_isTop s m args below meth c H locs 0 0 (EI Γ below args s w0 (WM Γ Am w kp tx td rf fa fb ap sp iw ig nu lst lwo hh) r0) (F0 m 34 ls [])) (hf : M_isTop_71 rc34 x1 x2 x3 x4 x5 x6 x7 x8 y0 w = some r0) (Y : Wd Γ w0 s (WM Γ Am w kp tx td rf fa fb ap sp iw ig nu lst lwo hh) H locs) (hl : lv_has ls 11 [(0, .ref (Am 0)), (1, .int x1), (2, .int x2), (3, .int x3), (4, .int x4), (5, .int x5), (6, .int x6), (7, .int x7), (8, .int x8)]) : W p l e rmM_isTop s m args below meth c H locs 0 0 (EI Γ below args s w0 (WM Γ Am w kp tx td rf fa fb ap sp iw ig nu lst lwo hh) r0) (F0 m 71 ls [.int y0]) := by
  have hx := X.1
  have hb := X.2.1
  refine lv_istore (lv' := [(9, .int y0), (0, .ref (Am 0)), (1, .int x1), (2, .int x2), (3, .int x3), (4, .int x4), (5, .int x5), (6, .int x6), (7, .int x7), (8, .int x8)]) hx hb dX12_isTop_71 hl (by decide) rfl (fun ls hl => ?_)
  refine lv_iload hx hb dX12_isTop_73 (lv_at hl 9 rfl) ?_
  refine lv_iload hx hb dX12_isTop_75 (lv_at hl 5 rfl) ?_
  refine lv_icmp_eq (tgt := 92) hx hb dX12_isTop_77 (by decide) (fun c_1 => ?_) (fun c_1 => ?_)
  · have hf := ite_t hf c_1
    exact bM_isTop_92 X h34 hf Y (lv_sub hl [1, 2, 3, 4, 5, 6, 7, 8, 9, 0] rfl)
  · have hf := ite_f hf c_1
    refine lv_iload_n hx hb dX12_isTop_80 rfl (lv_at hl 4 rfl) ?_
    refine lv_iload hx hb dX12_isTop_81 (lv_at hl 5 rfl) ?_
    refine lv_icmp_eq (tgt := 96) hx hb dX12_isTop_83 (by decide) (fun c_2 => ?_) (fun c_2 => ?_)
    · have hf := ite_t hf c_2
      exact bM_isTop_96 X h34 hf Y (lv_sub hl [1, 2, 3, 4, 5, 6, 7, 8, 9, 0] rfl)
    · have hf := ite_f hf c_2
      refine lv_iload hx hb dX12_isTop_86 (lv_at hl 9 rfl) ?_
      refine lv_iload_n hx hb dX12_isTop_88 rfl (lv_at hl 4 rfl) ?_
      refine lv_icmp_le (tgt := 96) hx hb dX12_isTop_89 (by decide) (fun c_3 => ?_) (fun c_3 => ?_)
      · have hf := ite_t hf c_3
        exact bM_isTop_96 X h34 hf Y (lv_sub hl [1, 2, 3, 4, 5, 6, 7, 8, 9, 0] rfl)
      · have hf := ite_f hf c_3
        exact bM_isTop_92 X h34 hf Y (lv_sub hl [1, 2, 3, 4, 5, 6, 7, 8, 9, 0] rfl)
def M_isTop_34 (rc34 : Int32 → Int32 → Int32 → Int32 → Int32 → Int32 → Int32 → Int32 → (Nat → Int32) → Option (Int32)) (x1 : Int32) (x2 : Int32) (x3 : Int32) (x4 : Int32) (x5 : Int32) (x6 : Int32) (x7 : Int32) (x8 : Int32) (w : Nat → Int32) : Option (Int32) := ck (inb (x1 + (0 : Int32)) 320) (if (w (x1 + (0 : Int32)).toNatClampNeg) ≤ x8 then (ck (bo x7) (some x7)) else (if x8 = x4 then (M_isTop_71 rc34 x1 x2 x3 x4 x5 x6 x7 x8 x5 w) else (ck (inb ((x1 + (22 : Int32)) + x8) 320) (M_isTop_71 rc34 x1 x2 x3 x4 x5 x6 x7 x8 (w ((x1 + (22 : Int32)) + x8).toNatClampNeg) w))))
set_option maxHeartbeats 4000000 in
set_option maxRecDepth 100000 in
theorem bM_isTop_34 {Am : Nat → Nat} {w : Nat → Int32} {kp : Nat → Int32} {tx : Nat → Int32} {td : Int32} {rf : Nat → Int32} {fa : Int64} {fb : Int64} {ap : Int32} {sp : Int32} {iw : Int32} {ig : Int32} {nu : Nat → Int32} {lst : Int32} {lwo : Int32} {hh : Int64} {r0 : Int32} {x1 : Int32} {x2 : Int32} {x3 : Int32} {x4 : Int32} {x5 : Int32} {x6 : Int32} {x7 : Int32} {x8 : Int32} {rc34 : Int32 → Int32 → Int32 → Int32 → Int32 → Int32 → Int32 → Int32 → (Nat → Int32) → Option (Int32)} (X : Cx Γ p s m args meth c RX12 cX12_isTop 11 (some .boolean) w0) (h34 : ∀ (x1 : Int32) (x2 : Int32) (x3 : Int32) (x4 : Int32) (x5 : Int32) (x6 : Int32) (x7 : Int32) (x8 : Int32) (w : Nat → Int32), rc34 x1 x2 x3 x4 x5 x6 x7 x8 w = some r0 → ∀ (H : Heap) (locs : List Loc) (ls : Array Slot), Wd Γ w0 s (WM Γ Am w kp tx td rf fa fb ap sp iw ig nu lst lwo hh) H locs → lv_has ls 11 [(0, .ref (Am 0)), (1, .int x1), (2, .int x2), (3, .int x3), (4, .int x4), (5, .int x5), (6, .int x6), (7, .int x7), (8, .int x8)] → W p l e rmM_isTop s m args below meth c H locs 0 0 (EI Γ below args s w0 (WM Γ Am w kp tx td rf fa fb ap sp iw ig nu lst lwo hh) r0) (F0 m 34 ls [])) (hf : M_isTop_34 rc34 x1 x2 x3 x4 x5 x6 x7 x8 w = some r0) (Y : Wd Γ w0 s (WM Γ Am w kp tx td rf fa fb ap sp iw ig nu lst lwo hh) H locs) (hl : lv_has ls 11 [(0, .ref (Am 0)), (1, .int x1), (2, .int x2), (3, .int x3), (4, .int x4), (5, .int x5), (6, .int x6), (7, .int x7), (8, .int x8)]) : W p l e rmM_isTop s m args below meth c H locs 0 0 (EI Γ below args s w0 (WM Γ Am w kp tx td rf fa fb ap sp iw ig nu lst lwo hh) r0) (F0 m 34 ls []) := by
  have hx := X.1
  have hb := X.2.1
  refine lv_iload hx hb dX12_isTop_34 (lv_at hl 8 rfl) ?_
  refine lv_aload_n hx hb dX12_isTop_36 rfl (lv_at hl 0 rfl) ?_
  refine gfX12_7 X Y (v := .ref (Am 1)) 0 rfl rfl dX12_isTop_37 ?_
  refine lv_iload_n hx hb dX12_isTop_40 rfl (lv_at hl 1 rfl) ?_
  refine lv_iconst (v := (0 : Int32)) hx hb dX12_isTop_41 (by decide) ?_
  refine lv_iadd hx hb dX12_isTop_42 ?_
  obtain ⟨hi_1, hf⟩ := ck_some hf
  refine x_iald X Y 1 rfl rfl hi_1 dX12_isTop_43 ?_
  refine lv_icmp_ge (tgt := 144) hx hb dX12_isTop_44 (by decide) (fun c_2 => ?_) (fun c_2 => ?_)
  · have hf := ite_t hf c_2
    refine lv_iload hx hb dX12_isTop_144 (lv_at hl 7 rfl) ?_
    obtain ⟨hz_3, hf⟩ := ck_some hf
    have e90 := Option.some.inj hf
    subst e90
    exact x_zret X Y (bo_nar hz_3) dX12_isTop_146
  · have hf := ite_f hf c_2
    refine lv_iload hx hb dX12_isTop_47 (lv_at hl 8 rfl) ?_
    refine lv_iload hx hb dX12_isTop_49 (lv_at hl 4 rfl) ?_
    refine lv_icmp_ne (tgt := 59) hx hb dX12_isTop_51 (by decide) (fun c_4 => ?_) (fun c_4 => ?_)
    · have hf := ite_f hf c_4
      refine lv_aload_n hx hb dX12_isTop_59 rfl (lv_at hl 0 rfl) ?_
      refine gfX12_7 X Y (v := .ref (Am 1)) 0 rfl rfl dX12_isTop_60 ?_
      refine lv_iload_n hx hb dX12_isTop_63 rfl (lv_at hl 1 rfl) ?_
      refine lv_bipush (v := (22 : Int32)) hx hb dX12_isTop_64 (by decide) ?_
      refine lv_iadd hx hb dX12_isTop_66 ?_
      refine lv_iload hx hb dX12_isTop_67 (lv_at hl 8 rfl) ?_
      refine lv_iadd hx hb dX12_isTop_69 ?_
      obtain ⟨hi_5, hf⟩ := ck_some hf
      refine x_iald X Y 1 rfl rfl hi_5 dX12_isTop_70 ?_
      exact bM_isTop_71 X h34 hf Y (lv_sub hl [0, 1, 2, 3, 4, 5, 6, 7, 8] rfl)
    · have hf := ite_t hf c_4
      refine lv_iload hx hb dX12_isTop_54 (lv_at hl 5 rfl) ?_
      refine lv_goto (tgt := 71) hx hb dX12_isTop_56 (by decide) ?_
      exact bM_isTop_71 X h34 hf Y (lv_sub hl [0, 1, 2, 3, 4, 5, 6, 7, 8] rfl)
def M_isTop_L34 : Nat → Int32 → Int32 → Int32 → Int32 → Int32 → Int32 → Int32 → Int32 → (Nat → Int32) → Option (Int32)
  | 0, _, _, _, _, _, _, _, _, _ => none
  | n + 1, x1, x2, x3, x4, x5, x6, x7, x8, w => M_isTop_34 (M_isTop_L34 n) x1 x2 x3 x4 x5 x6 x7 x8 w
theorem lM_isTop_34 {Am : Nat → Nat} {kp : Nat → Int32} {tx : Nat → Int32} {td : Int32} {rf : Nat → Int32} {fa : Int64} {fb : Int64} {ap : Int32} {sp : Int32} {iw : Int32} {ig : Int32} {nu : Nat → Int32} {lst : Int32} {lwo : Int32} {hh : Int64} {r0 : Int32} (X : Cx Γ p s m args meth c RX12 cX12_isTop 11 (some .boolean) w0) : ∀ (n : Nat) (x1 : Int32) (x2 : Int32) (x3 : Int32) (x4 : Int32) (x5 : Int32) (x6 : Int32) (x7 : Int32) (x8 : Int32) (w : Nat → Int32), M_isTop_L34 n x1 x2 x3 x4 x5 x6 x7 x8 w = some r0 → ∀ (H : Heap) (locs : List Loc) (ls : Array Slot), Wd Γ w0 s (WM Γ Am w kp tx td rf fa fb ap sp iw ig nu lst lwo hh) H locs → lv_has ls 11 [(0, .ref (Am 0)), (1, .int x1), (2, .int x2), (3, .int x3), (4, .int x4), (5, .int x5), (6, .int x6), (7, .int x7), (8, .int x8)] → W p l e rmM_isTop s m args below meth c H locs 0 0 (EI Γ below args s w0 (WM Γ Am w kp tx td rf fa fb ap sp iw ig nu lst lwo hh) r0) (F0 m 34 ls []) := by
  intro n
  induction n with
  | zero => intro x1 x2 x3 x4 x5 x6 x7 x8 w hf; cases hf
  | succ n ih => intro x1 x2 x3 x4 x5 x6 x7 x8 w hf H locs ls Y hl; exact bM_isTop_34 X ih hf Y hl
def M_isTop_22 (x1 : Int32) (x2 : Int32) (x3 : Int32) (x4 : Int32) (x5 : Int32) (y0 : Int32) (w : Nat → Int32) : Option (Int32) := bd1 (M_has x2 x3) (fun (r_1 : Int32) => M_isTop_L34 FU x1 x2 x3 x4 x5 y0 r_1 (0 : Int32) w)
set_option maxHeartbeats 4000000 in
set_option maxRecDepth 100000 in
theorem bM_isTop_22 {Am : Nat → Nat} {w : Nat → Int32} {kp : Nat → Int32} {tx : Nat → Int32} {td : Int32} {rf : Nat → Int32} {fa : Int64} {fb : Int64} {ap : Int32} {sp : Int32} {iw : Int32} {ig : Int32} {nu : Nat → Int32} {lst : Int32} {lwo : Int32} {hh : Int64} {r0 : Int32} {x1 : Int32} {x2 : Int32} {x3 : Int32} {x4 : Int32} {x5 : Int32} {y0 : Int32} (X : Cx Γ p s m args meth c RX12 cX12_isTop 11 (some .boolean) w0) (hf : M_isTop_22 x1 x2 x3 x4 x5 y0 w = some r0) (Y : Wd Γ w0 s (WM Γ Am w kp tx td rf fa fb ap sp iw ig nu lst lwo hh) H locs) (hl : lv_has ls 11 [(0, .ref (Am 0)), (1, .int x1), (2, .int x2), (3, .int x3), (4, .int x4), (5, .int x5)]) : W p l e rmM_isTop s m args below meth c H locs 0 0 (EI Γ below args s w0 (WM Γ Am w kp tx td rf fa fb ap sp iw ig nu lst lwo hh) r0) (F0 m 22 ls [.int y0]) := by
  have hx := X.1
  have hb := X.2.1
  refine lv_istore (lv' := [(6, .int y0), (0, .ref (Am 0)), (1, .int x1), (2, .int x2), (3, .int x3), (4, .int x4), (5, .int x5)]) hx hb dX12_isTop_22 hl (by decide) rfl (fun ls hl => ?_)
  refine lv_iload_n hx hb dX12_isTop_24 rfl (lv_at hl 3 rfl) ?_
  refine lv_iload_n hx hb dX12_isTop_25 rfl (lv_at hl 4 rfl) ?_
  obtain ⟨r_1, ho_2, hf⟩ := bd1_some hf
  refine t_i Y (bk0 Y) (r_S (As := [.int x2, .int x3]) (rest := []) X (c_pre0 X Y) (cM_has ho_2) (cwX12_70 X (by decide)) rfl hl.1 (Nat.le_of_ble_eq_true rfl) rfl dX12_isTop_26 ⟨Nat.zero_le _, Nat.zero_le _⟩) (fun H locs Y => ?_)
  refine lv_istore (lv' := [(7, .int r_1), (6, .int y0), (0, .ref (Am 0)), (1, .int x1), (2, .int x2), (3, .int x3), (4, .int x4), (5, .int x5)]) hx hb dX12_isTop_29 hl (by decide) rfl (fun ls hl => ?_)
  refine lv_iconst (v := (0 : Int32)) hx hb dX12_isTop_31 (by decide) ?_
  refine lv_istore (lv' := [(8, .int (0 : Int32)), (7, .int r_1), (6, .int y0), (0, .ref (Am 0)), (1, .int x1), (2, .int x2), (3, .int x3), (4, .int x4), (5, .int x5)]) hx hb dX12_isTop_32 hl (by decide) rfl (fun ls hl => ?_)
  exact lM_isTop_34 X _ _ _ _ _ _ _ _ _ _ hf _ _ _ Y (lv_sub hl [3, 4, 5, 6, 7, 8, 2, 1, 0] rfl)
def M_isTop (x1 : Int32) (x2 : Int32) (x3 : Int32) (x4 : Int32) (x5 : Int32) (w : Nat → Int32) : Option (Int32) := if x3 = x4 then (M_isTop_22 x1 x2 x3 x4 x5 x5 w) else (ck (inb ((x1 + (22 : Int32)) + x3) 320) (M_isTop_22 x1 x2 x3 x4 x5 (w ((x1 + (22 : Int32)) + x3).toNatClampNeg) w))
set_option maxHeartbeats 4000000 in
set_option maxRecDepth 100000 in
theorem bM_isTop_e {Am : Nat → Nat} {w : Nat → Int32} {kp : Nat → Int32} {tx : Nat → Int32} {td : Int32} {rf : Nat → Int32} {fa : Int64} {fb : Int64} {ap : Int32} {sp : Int32} {iw : Int32} {ig : Int32} {nu : Nat → Int32} {lst : Int32} {lwo : Int32} {hh : Int64} {r0 : Int32} {x1 : Int32} {x2 : Int32} {x3 : Int32} {x4 : Int32} {x5 : Int32} (X : Cx Γ p s m args meth c RX12 cX12_isTop 11 (some .boolean) w0) (hf : M_isTop x1 x2 x3 x4 x5 w = some r0) (Y : Wd Γ w0 s (WM Γ Am w kp tx td rf fa fb ap sp iw ig nu lst lwo hh) H locs) (hl : lv_has ls 11 [(0, .ref (Am 0)), (1, .int x1), (2, .int x2), (3, .int x3), (4, .int x4), (5, .int x5)]) : W p l e rmM_isTop s m args below meth c H locs 0 0 (EI Γ below args s w0 (WM Γ Am w kp tx td rf fa fb ap sp iw ig nu lst lwo hh) r0) (F0 m 0 ls []) := by
  have hx := X.1
  have hb := X.2.1
  refine lv_iload_n hx hb dX12_isTop_0 rfl (lv_at hl 3 rfl) ?_
  refine lv_iload hx hb dX12_isTop_1 (lv_at hl 4 rfl) ?_
  refine lv_icmp_ne (tgt := 11) hx hb dX12_isTop_3 (by decide) (fun c_1 => ?_) (fun c_1 => ?_)
  · have hf := ite_f hf c_1
    refine lv_aload_n hx hb dX12_isTop_11 rfl (lv_at hl 0 rfl) ?_
    refine gfX12_7 X Y (v := .ref (Am 1)) 0 rfl rfl dX12_isTop_12 ?_
    refine lv_iload_n hx hb dX12_isTop_15 rfl (lv_at hl 1 rfl) ?_
    refine lv_bipush (v := (22 : Int32)) hx hb dX12_isTop_16 (by decide) ?_
    refine lv_iadd hx hb dX12_isTop_18 ?_
    refine lv_iload_n hx hb dX12_isTop_19 rfl (lv_at hl 3 rfl) ?_
    refine lv_iadd hx hb dX12_isTop_20 ?_
    obtain ⟨hi_2, hf⟩ := ck_some hf
    refine x_iald X Y 1 rfl rfl hi_2 dX12_isTop_21 ?_
    exact bM_isTop_22 X hf Y (lv_sub hl [0, 1, 2, 3, 4, 5] rfl)
  · have hf := ite_t hf c_1
    refine lv_iload hx hb dX12_isTop_6 (lv_at hl 5 rfl) ?_
    refine lv_goto (tgt := 22) hx hb dX12_isTop_8 (by decide) ?_
    exact bM_isTop_22 X hf Y (lv_sub hl [0, 1, 2, 3, 4, 5] rfl)
theorem cM_isTop {l : Launch} {Γ : Gm} {Am : Nat → Nat} {w : Nat → Int32} {kp : Nat → Int32} {tx : Nat → Int32} {td : Int32} {rf : Nat → Int32} {fa : Int64} {fb : Int64} {ap : Int32} {sp : Int32} {iw : Int32} {ig : Int32} {nu : Nat → Int32} {lst : Int32} {lwo : Int32} {hh : Int64} {r0 : Int32} {x1 : Int32} {x2 : Int32} {x3 : Int32} {x4 : Int32} {x5 : Int32} (h : M_isTop x1 x2 x3 x4 x5 w = some r0) : CI l Γ yX12_isTop (Cond.code yX12_isTop cX12_isTop 11 (some .boolean) :: GW) rmM_isTop [.ref (Am 0), .int x1, .int x2, .int x3, .int x4, .int x5] (WM Γ Am w kp tx td rf fa fb ap sp iw ig nu lst lwo hh) (WM Γ Am w kp tx td rf fa fb ap sp iw ig nu lst lwo hh) r0 := ofBody (Qc := QcI Γ _ _ r0) (by decide) (Nat.le_of_ble_eq_true rfl) (fun p e s m below meth c ls _ X Y hl => bM_isTop_e X h Y hl)
end
