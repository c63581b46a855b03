section
variable {p : Program} {l : Launch} {e : Env} {R : Room} {s : State} {m : MethodId} {args : Array Value} {below : List Frame} {meth : Method} {c : Code} {H : Heap} {locs : List Loc} {Q : State → Prop} {cells slots : Nat}
variable {Γ : Gm} {own : String} {cc : ByteArray} {nL : Nat} {ret : Option FieldType} {w0 ws ws' : va_W} {pc : Nat} {ls : Array Slot} {rest : List Value} {a : Nat}
theorem pfX12_194 (X : Cx Γ p s m args meth c RX12 cc nL ret w0) (Y : Wd Γ w0 s ws H locs) (q0 : Nat) {fs : List Value} (he : ws[q0]? = some (a, .inr (12, fs))) {v : Value} (hn : narrow (tyX12 12) v = v) (hfit : fits (tyX12 12) v = true) (hl : 12 < fs.length) (hw : ws.set q0 (a, .inr (12, fs.set 12 v)) = ws') (hdg : decode cc pc = .ok (.putfield 194, 3)) (kk : ∀ (H1 : Heap) (locs1 : List Loc), Wd Γ w0 s ws' H1 locs1 → W p l e R s m args below meth c H1 locs1 cells slots Q (F0 m (pc + 3) ls rest)) : W p l e R s m args below meth c H locs cells slots Q (F0 m pc ls (v :: .ref a :: rest)) := x_put X Y iX12 tyX12 tyX12_ok nmX12 rfl 12 (by decide) rfl kw155 rfl q0 he hn hfit hl hw hdg kk
theorem pfX12_198 (X : Cx Γ p s m args meth c RX12 cc nL ret w0) (Y : Wd Γ w0 s ws H locs) (q0 : Nat) {fs : List Value} (he : ws[q0]? = some (a, .inr (12, fs))) {v : Value} (hn : narrow (tyX12 13) v = v) (hfit : fits (tyX12 13) v = true) (hl : 13 < fs.length) (hw : ws.set q0 (a, .inr (12, fs.set 13 v)) = ws') (hdg : decode cc pc = .ok (.putfield 198, 3)) (kk : ∀ (H1 : Heap) (locs1 : List Loc), Wd Γ w0 s ws' H1 locs1 → W p l e R s m args below meth c H1 locs1 cells slots Q (F0 m (pc + 3) ls rest)) : W p l e R s m args below meth c H locs cells slots Q (F0 m pc ls (v :: .ref a :: rest)) := x_put X Y iX12 tyX12 tyX12_ok nmX12 rfl 13 (by decide) rfl kw157 rfl q0 he hn hfit hl hw hdg kk
theorem gfX12_198 (X : Cx Γ p s m args meth c RX12 cc nL ret w0) (Y : Wd Γ w0 s ws H locs) {v : Value} (q0 : Nat) {fs : List Value} (he : ws[q0]? = some (a, .inr (12, fs))) (hv : fs[13]? = some v) (hdg : decode cc pc = .ok (.getfield 198, 3)) (kk : W p l e R s m args below meth c H locs cells slots Q (F0 m (pc + 3) ls (v :: rest))) : W p l e R s m args below meth c H locs cells slots Q (F0 m pc ls (.ref a :: rest)) := x_get X Y iX12 rfl 13 (by decide) rfl kw157 q0 he hv hdg kk
theorem gfX12_194 (X : Cx Γ p s m args meth c RX12 cc nL ret w0) (Y : Wd Γ w0 s ws H locs) {v : Value} (q0 : Nat) {fs : List Value} (he : ws[q0]? = some (a, .inr (12, fs))) (hv : fs[12]? = some v) (hdg : decode cc pc = .ok (.getfield 194, 3)) (kk : W p l e R s m args below meth c H locs cells slots Q (F0 m (pc + 3) ls (v :: rest))) : W p l e R s m args below meth c H locs cells slots Q (F0 m pc ls (.ref a :: rest)) := x_get X Y iX12 rfl 12 (by decide) rfl kw155 q0 he hv hdg kk
theorem dmX12_canGoV : yX12_canGo.cls = RX12 ∧ yX12_canGo.cls ≠ "java/lang/invoke/MethodHandle" ∧ yX12_canGo.cls ≠ "java/lang/invoke/VarHandle" ∧ (parseMethodDescriptor yX12_canGo.desc).map (fun d => d.parameters.length) = some 4 := by decide +kernel
theorem cwX12_201 (X : Cx Γ p s m args meth c RX12 cc nL ret w0) (hR : rmM_canGo.frames + 1 ≤ R.frames ∧ 8 + (7 + 11) + rmM_canGo.locals ≤ R.locals) : CallW R s args RX12 RX12 201 yX12_canGo cX12_canGo 7 (some .boolean) (Cond.code yX12_canGo cX12_canGo 7 (some .boolean) :: GW) rmM_canGo 0 0 4 := cw_V X kw158 kw159 kw160 kw4 kw161 dmX12_canGoV rfl rfl hR
def rmM_findLeast : Room := { frames := 3, cells := 0, slots := 0, locals := 77 }
def M_findLeast_139 (rc14 : Int32 → Int32 → Int32 → Int32 → Int32 → (Nat → Int32) → Int32 → Int32 → Option (Int32 × Int32)) (x1 : Int32) (x2 : Int32) (x3 : Int32) (x4 : Int32) (x5 : Int32) (y0 : Int32) (w : Nat → Int32) (lst : Int32) (lwo : Int32) : Option (Int32 × Int32) := bnd (x5 + (1 : Int32)) (fun (x5_1 : Int32) => rc14 x1 x2 x3 x4 x5_1 w lst y0)
set_option maxHeartbeats 4000000 in
set_option maxRecDepth 100000 in
theorem bM_findLeast_139 {Am : Nat → Nat} {w : Nat → Int32} {kp : Nat → Int32} {tx : Nat → Int32} {td : Int32} {rf : Nat → Int32} {fa : Int64} {fb : Int64} {ap : Int32} {sp : Int32} {iw : Int32} {ig : Int32} {nu : Nat → Int32} {lst : Int32} {lwo : Int32} {hh : Int64} {lst_z : Int32} {lwo_z : Int32} {x1 : Int32} {x2 : Int32} {x3 : Int32} {x4 : Int32} {x5 : Int32} {y0 : Int32} {rc14 : Int32 → Int32 → Int32 → Int32 → Int32 → (Nat → Int32) → Int32 → Int32 → Option (Int32 × Int32)} (X : Cx Γ p s m args meth c RX12 cX12_findLeast 8 none w0) (h14 : ∀ (x1 : Int32) (x2 : Int32) (x3 : Int32) (x4 : Int32) (x5 : Int32) (w : Nat → Int32) (lst : Int32) (lwo : Int32), rc14 x1 x2 x3 x4 x5 w lst lwo = some (lst_z, lwo_z) → ∀ (H : Heap) (locs : List Loc) (ls : Array Slot), Wd Γ w0 s (WM Γ Am w kp tx td rf fa fb ap sp iw ig nu lst lwo hh) H locs → lv_has ls 8 [(0, .ref (Am 0)), (1, .int x1), (2, .int x2), (3, .int x3), (4, .int x4), (5, .int x5)] → W p l e rmM_findLeast s m args below meth c H locs 0 0 (EV Γ below args s w0 (WM Γ Am w kp tx td rf fa fb ap sp iw ig nu lst_z lwo_z hh)) (F0 m 14 ls [])) (hf : M_findLeast_139 rc14 x1 x2 x3 x4 x5 y0 w lst lwo = some (lst_z, lwo_z)) (Y : Wd Γ w0 s (WM Γ Am w kp tx td rf fa fb ap sp iw ig nu lst lwo hh) H locs) (hl : lv_has ls 8 [(0, .ref (Am 0)), (1, .int x1), (2, .int x2), (3, .int x3), (4, .int x4), (5, .int x5)]) : W p l e rmM_findLeast s m args below meth c H locs 0 0 (EV Γ below args s w0 (WM Γ Am w kp tx td rf fa fb ap sp iw ig nu lst_z lwo_z hh)) (F0 m 139 ls [.int y0, .ref (Am 0)]) := by
  have hx := X.1
  have hb := X.2.1
  refine pfX12_198 X Y 0 rfl rfl rfl (Nat.le_of_ble_eq_true rfl) (ws' := (WM Γ Am w kp tx td rf fa fb ap sp iw ig nu lst y0 hh)) rfl dX12_findLeast_139 (fun H locs Y => ?_)
  obtain ⟨x5_1, e_x5_1⟩ : ∃ z : Int32, z = (x5 + (1 : Int32)) := ⟨_, rfl⟩
  have hf := bnd_eq hf e_x5_1
  refine lv_iinc (v := x5_1) (lv' := [(5, .int x5_1), (0, .ref (Am 0)), (1, .int x1), (2, .int x2), (3, .int x3), (4, .int x4)]) hx hb dX12_findLeast_142 hl (k := 5) rfl (by rw [e_x5_1]; rfl) (by decide) rfl (fun ls hl => ?_)
  refine lv_goto (tgt := 14) hx hb dX12_findLeast_145 (by decide) ?_
  exact h14 _ _ _ _ _ _ _ _ hf _ _ _ Y (lv_sub hl [1, 2, 3, 4, 5, 0] rfl)
def M_findLeast_121 (rc14 : Int32 → Int32 → Int32 → Int32 → Int32 → (Nat → Int32) → Int32 → Int32 → Option (Int32 × Int32)) (x1 : Int32) (x2 : Int32) (x3 : Int32) (x4 : Int32) (x5 : Int32) (x6 : Int32) (x7 : Int32) (y0 : Int32) (w : Nat → Int32) (lst : Int32) (lwo : Int32) : Option (Int32 × Int32) := if x7 = 0 then (M_findLeast_139 rc14 x1 x2 x3 x4 x5 lwo w y0 lwo) else (M_findLeast_139 rc14 x1 x2 x3 x4 x5 x6 w y0 lwo)
set_option maxHeartbeats 4000000 in
set_option maxRecDepth 100000 in
theorem bM_findLeast_121 {Am : Nat → Nat} {w : Nat → Int32} {kp : Nat → Int32} {tx : Nat → Int32} {td : Int32} {rf : Nat → Int32} {fa : Int64} {fb : Int64} {ap : Int32} {sp : Int32} {iw : Int32} {ig : Int32} {nu : Nat → Int32} {lst : Int32} {lwo : Int32} {hh : Int64} {lst_z : Int32} {lwo_z : Int32} {x1 : Int32} {x2 : Int32} {x3 : Int32} {x4 : Int32} {x5 : Int32} {x6 : Int32} {x7 : Int32} {y0 : Int32} {rc14 : Int32 → Int32 → Int32 → Int32 → Int32 → (Nat → Int32) → Int32 → Int32 → Option (Int32 × Int32)} (X : Cx Γ p s m args meth c RX12 cX12_findLeast 8 none w0) (h14 : ∀ (x1 : Int32) (x2 : Int32) (x3 : Int32) (x4 : Int32) (x5 : Int32) (w : Nat → Int32) (lst : Int32) (lwo : Int32), rc14 x1 x2 x3 x4 x5 w lst lwo = some (lst_z, lwo_z) → ∀ (H : Heap) (locs : List Loc) (ls : Array Slot), Wd Γ w0 s (WM Γ Am w kp tx td rf fa fb ap sp iw ig nu lst lwo hh) H locs → lv_has ls 8 [(0, .ref (Am 0)), (1, .int x1), (2, .int x2), (3, .int x3), (4, .int x4), (5, .int x5)] → W p l e rmM_findLeast s m args below meth c H locs 0 0 (EV Γ below args s w0 (WM Γ Am w kp tx td rf fa fb ap sp iw ig nu lst_z lwo_z hh)) (F0 m 14 ls [])) (hf : M_findLeast_121 rc14 x1 x2 x3 x4 x5 x6 x7 y0 w lst lwo = some (lst_z, lwo_z)) (Y : Wd Γ w0 s (WM Γ Am w kp tx td rf fa fb ap sp iw ig nu lst lwo hh) H locs) (hl : lv_has ls 8 [(0, .ref (Am 0)), (1, .int x1), (2, .int x2), (3, .int x3), (4, .int x4), (5, .int x5), (6, .int x6), (7, .int x7)]) : W p l e rmM_findLeast s m args below meth c H locs 0 0 (EV Γ below args s w0 (WM Γ Am w kp tx td rf fa fb ap sp iw ig nu lst_z lwo_z hh)) (F0 m 121 ls [.int y0, .ref (Am 0)]) := by
  have hx := X.1
  have hb := X.2.1
  refine pfX12_194 X Y 0 rfl rfl rfl (Nat.le_of_ble_eq_true rfl) (ws' := (WM Γ Am w kp tx td rf fa fb ap sp iw ig nu y0 lwo hh)) rfl dX12_findLeast_121 (fun H locs Y => ?_)
  refine lv_aload_n hx hb dX12_findLeast_124 rfl (lv_at hl 0 rfl) ?_
  refine lv_iload hx hb dX12_findLeast_125 (lv_at hl 7 rfl) ?_
  refine lv_if_eq (tgt := 135) hx hb dX12_findLeast_127 (by decide) (fun c_1 => ?_) (fun c_1 => ?_)
  · have hf := ite_t hf c_1
    refine lv_aload_n hx hb dX12_findLeast_135 rfl (lv_at hl 0 rfl) ?_
    refine gfX12_198 X Y (v := .int lwo) 0 rfl rfl dX12_findLeast_136 ?_
    exact bM_findLeast_139 X h14 hf Y (lv_sub hl [0, 1, 2, 3, 4, 5] rfl)
  · have hf := ite_f hf c_1
    refine lv_iload hx hb dX12_findLeast_130 (lv_at hl 6 rfl) ?_
    refine lv_goto (tgt := 139) hx hb dX12_findLeast_132 (by decide) ?_
    exact bM_findLeast_139 X h14 hf Y (lv_sub hl [0, 1, 2, 3, 4, 5] rfl)
def M_findLeast_104 (rc14 : Int32 → Int32 → Int32 → Int32 → Int32 → (Nat → Int32) → Int32 → Int32 → Option (Int32 × Int32)) (x1 : Int32) (x2 : Int32) (x3 : Int32) (x4 : Int32) (x5 : Int32) (x6 : Int32) (y0 : Int32) (w : Nat → Int32) (lst : Int32) (lwo : Int32) : Option (Int32 × Int32) := if y0 = 0 then (M_findLeast_121 rc14 x1 x2 x3 x4 x5 x6 y0 lst w lst lwo) else (M_findLeast_121 rc14 x1 x2 x3 x4 x5 x6 y0 x5 w lst lwo)
set_option maxHeartbeats 4000000 in
set_option maxRecDepth 100000 in
theorem bM_findLeast_104 {Am : Nat → Nat} {w : Nat → Int32} {kp : Nat → Int32} {tx : Nat → Int32} {td : Int32} {rf : Nat → Int32} {fa : Int64} {fb : Int64} {ap : Int32} {sp : Int32} {iw : Int32} {ig : Int32} {nu : Nat → Int32} {lst : Int32} {lwo : Int32} {hh : Int64} {lst_z : Int32} {lwo_z : Int32} {x1 : Int32} {x2 : Int32} {x3 : Int32} {x4 : Int32} {x5 : Int32} {x6 : Int32} {y0 : Int32} {rc14 : Int32 → Int32 → Int32 → Int32 → Int32 → (Nat → Int32) → Int32 → Int32 → Option (Int32 × Int32)} (X : Cx Γ p s m args meth c RX12 cX12_findLeast 8 none w0) (h14 : ∀ (x1 : Int32) (x2 : Int32) (x3 : Int32) (x4 : Int32) (x5 : Int32) (w : Nat → Int32) (lst : Int32) (lwo : Int32), rc14 x1 x2 x3 x4 x5 w lst lwo = some (lst_z, lwo_z) → ∀ (H : Heap) (locs : List Loc) (ls : Array Slot), Wd Γ w0 s (WM Γ Am w kp tx td rf fa fb ap sp iw ig nu lst lwo hh) H locs → lv_has ls 8 [(0, .ref (Am 0)), (1, .int x1), (2, .int x2), (3, .int x3), (4, .int x4), (5, .int x5)] → W p l e rmM_findLeast s m args below meth c H locs 0 0 (EV Γ below args s w0 (WM Γ Am w kp tx td rf fa fb ap sp iw ig nu lst_z lwo_z hh)) (F0 m 14 ls [])) (hf : M_findLeast_104 rc14 x1 x2 x3 x4 x5 x6 y0 w lst lwo = some (lst_z, lwo_z)) (Y : Wd Γ w0 s (WM Γ Am w kp tx td rf fa fb ap sp iw ig nu lst lwo hh) H locs) (hl : lv_has ls 8 [(0, .ref (Am 0)), (1, .int x1), (2, .int x2), (3, .int x3), (4, .int x4), (5, .int x5), (6, .int x6)]) : W p l e rmM_findLeast s m args below meth c H locs 0 0 (EV Γ below args s w0 (WM Γ Am w kp tx td rf fa fb ap sp iw ig nu lst_z lwo_z hh)) (F0 m 104 ls [.int y0]) := by
  have hx := X.1
  have hb := X.2.1
  refine lv_istore (lv' := [(7, .int y0), (0, .ref (Am 0)), (1, .int x1), (2, .int x2), (3, .int x3), (4, .int x4), (5, .int x5), (6, .int x6)]) hx hb dX12_findLeast_104 hl (by decide) rfl (fun ls hl => ?_)
  refine lv_aload_n hx hb dX12_findLeast_106 rfl (lv_at hl 1 rfl) ?_
  refine lv_iload hx hb dX12_findLeast_107 (lv_at hl 0 rfl) ?_
  refine lv_if_eq (tgt := 117) hx hb dX12_findLeast_109 (by decide) (fun c_1 => ?_) (fun c_1 => ?_)
  · have hf := ite_t hf c_1
    refine lv_aload_n hx hb dX12_findLeast_117 rfl (lv_at hl 1 rfl) ?_
    refine gfX12_194 X Y (v := .int lst) 0 rfl rfl dX12_findLeast_118 ?_
    exact bM_findLeast_121 X h14 hf Y (lv_sub hl [1, 2, 3, 4, 5, 6, 7, 0] rfl)
  · have hf := ite_f hf c_1
    refine lv_iload hx hb dX12_findLeast_112 (lv_at hl 6 rfl) ?_
    refine lv_goto (tgt := 121) hx hb dX12_findLeast_114 (by decide) ?_
    exact bM_findLeast_121 X h14 hf Y (lv_sub hl [1, 2, 3, 4, 5, 6, 7, 0] rfl)
def M_findLeast_99 (rc14 : Int32 → Int32 → Int32 → Int32 → Int32 → (Nat → Int32) → Int32 → Int32 → Option (Int32 × Int32)) (x1 : Int32) (x2 : Int32) (x3 : Int32) (x4 : Int32) (x5 : Int32) (x6 : Int32) (w : Nat → Int32) (lst : Int32) (lwo : Int32) : Option (Int32 × Int32) := M_findLeast_104 rc14 x1 x2 x3 x4 x5 x6 (1 : Int32) w lst lwo
set_option maxHeartbeats 4000000 in
set_option maxRecDepth 100000 in
theorem bM_findLeast_99 {Am : Nat → Nat} {w : Nat → Int32} {kp : Nat → Int32} {tx : Nat → Int32} {td : Int32} {rf : Nat → Int32} {fa : Int64} {fb : Int64} {ap : Int32} {sp : Int32} {iw : Int32} {ig : Int32} {nu : Nat → Int32} {lst : Int32} {lwo : Int32} {hh : Int64} {lst_z : Int32} {lwo_z : Int32} {x1 : Int32} {x2 : Int32} {x3 : Int32} {x4 : Int32} {x5 : Int32} {x6 : Int32} {rc14 : Int32 → Int32 → Int32 → Int32 → Int32 → (Nat → Int32) → Int32 → Int32 → Option (Int32 × Int32)} (X : Cx Γ p s m args meth c RX12 cX12_findLeast 8 none w0) (h14 : ∀ (x1 : Int32) (x2 : Int32) (x3 : Int32) (x4 : Int32) (x5 : Int32) (w : Nat → Int32) (lst : Int32) (lwo : Int32), rc14 x1 x2 x3 x4 x5 w lst lwo = some (lst_z, lwo_z) → ∀ (H : Heap) (locs : List Loc) (ls : Array Slot), Wd Γ w0 s (WM Γ Am w kp tx td rf fa fb ap sp iw ig nu lst lwo hh) H locs → lv_has ls 8 [(0, .ref (Am 0)), (1, .int x1), (2, .int x2), (3, .int x3), (4, .int x4), (5, .int x5)] → W p l e rmM_findLeast s m args below meth c H locs 0 0 (EV Γ below args s w0 (WM Γ Am w kp tx td rf fa fb ap sp iw ig nu lst_z lwo_z hh)) (F0 m 14 ls [])) (hf : M_findLeast_99 rc14 x1 x2 x3 x4 x5 x6 w lst lwo = some (lst_z, lwo_z)) (Y : Wd Γ w0 s (WM Γ Am w kp tx td rf fa fb ap sp iw ig nu lst lwo hh) H locs) (hl : lv_has ls 8 [(0, .ref (Am 0)), (1, .int x1), (2, .int x2), (3, .int x3), (4, .int x4), (5, .int x5), (6, .int x6)]) : W p l e rmM_findLeast s m args below meth c H locs 0 0 (EV Γ below args s w0 (WM Γ Am w kp tx td rf fa fb ap sp iw ig nu lst_z lwo_z hh)) (F0 m 99 ls []) := by
  have hx := X.1
  have hb := X.2.1
  refine lv_iconst (v := (1 : Int32)) hx hb dX12_findLeast_99 (by decide) ?_
  refine lv_goto (tgt := 104) hx hb dX12_findLeast_100 (by decide) ?_
  exact bM_findLeast_104 X h14 hf Y (lv_sub hl [0, 1, 2, 3, 4, 5, 6] rfl)
def M_findLeast_103 (rc14 : Int32 → Int32 → Int32 → Int32 → Int32 → (Nat → Int32) → Int32 → Int32 → Option (Int32 × Int32)) (x1 : Int32) (x2 : Int32) (x3 : Int32) (x4 : Int32) (x5 : Int32) (x6 : Int32) (w : Nat → Int32) (lst : Int32) (lwo : Int32) : Option (Int32 × Int32) := M_findLeast_104 rc14 x1 x2 x3 x4 x5 x6 (0 : Int32) w lst lwo
set_option maxHeartbeats 4000000 in
set_option maxRecDepth 100000 in
theorem bM_findLeast_103 {Am : Nat → Nat} {w : Nat → Int32} {kp : Nat → Int32} {tx : Nat → Int32} {td : Int32} {rf : Nat → Int32} {fa : Int64} {fb : Int64} {ap : Int32} {sp : Int32} {iw : Int32} {ig : Int32} {nu : Nat → Int32} {lst : Int32} {lwo : Int32} {hh : Int64} {lst_z : Int32} {lwo_z : Int32} {x1 : Int32} {x2 : Int32} {x3 : Int32} {x4 : Int32} {x5 : Int32} {x6 : Int32} {rc14 : Int32 → Int32 → Int32 → Int32 → Int32 → (Nat → Int32) → Int32 → Int32 → Option (Int32 × Int32)} (X : Cx Γ p s m args meth c RX12 cX12_findLeast 8 none w0) (h14 : ∀ (x1 : Int32) (x2 : Int32) (x3 : Int32) (x4 : Int32) (x5 : Int32) (w : Nat → Int32) (lst : Int32) (lwo : Int32), rc14 x1 x2 x3 x4 x5 w lst lwo = some (lst_z, lwo_z) → ∀ (H : Heap) (locs : List Loc) (ls : Array Slot), Wd Γ w0 s (WM Γ Am w kp tx td rf fa fb ap sp iw ig nu lst lwo hh) H locs → lv_has ls 8 [(0, .ref (Am 0)), (1, .int x1), (2, .int x2), (3, .int x3), (4, .int x4), (5, .int x5)] → W p l e rmM_findLeast s m args below meth c H locs 0 0 (EV Γ below args s w0 (WM Γ Am w kp tx td rf fa fb ap sp iw ig nu lst_z lwo_z hh)) (F0 m 14 ls [])) (hf : M_findLeast_103 rc14 x1 x2 x3 x4 x5 x6 w lst lwo = some (lst_z, lwo_z)) (Y : Wd Γ w0 s (WM Γ Am w kp tx td rf fa fb ap sp iw ig nu lst lwo hh) H locs) (hl : lv_has ls 8 [(0, .ref (Am 0)), (1, .int x1), (2, .int x2), (3, .int x3), (4, .int x4), (5, .int x5), (6, .int x6)]) : W p l e rmM_findLeast s m args below meth c H locs 0 0 (EV Γ below args s w0 (WM Γ Am w kp tx td rf fa fb ap sp iw ig nu lst_z lwo_z hh)) (F0 m 103 ls []) := by
  have hx := X.1
  have hb := X.2.1
  refine lv_iconst (v := (0 : Int32)) hx hb dX12_findLeast_103 (by decide) ?_
  exact bM_findLeast_104 X h14 hf Y (lv_sub hl [0, 1, 2, 3, 4, 5, 6] rfl)
def M_findLeast_14 (rc14 : Int32 → Int32 → Int32 → Int32 → Int32 → (Nat → Int32) → Int32 → Int32 → Option (Int32 × Int32)) (x1 : Int32) (x2 : Int32) (x3 : Int32) (x4 : Int32) (x5 : Int32) (w : Nat → Int32) (lst : Int32) (lwo : Int32) : Option (Int32 × Int32) := if (256 : Int32) ≤ x5 then (some (lst, lwo)) else (if (x5 &&& (x1 ^^^ (-1 : Int32))) = 0 then (bd1 (M_isAlive (x1 &&& (x5 ^^^ (-1 : Int32))) x2 w) (fun (r_4 : Int32) => if r_4 = 0 then (bnd (x5 + (1 : Int32)) (fun (x5_6 : Int32) => rc14 x1 x2 x3 x4 x5_6 w lst lwo)) else (bd1 (M_canGo x1 x5 x3 x4 w) (fun (r_7 : Int32) => if r_7 = 0 then (bnd (x5 + (1 : Int32)) (fun (x5_9 : Int32) => rc14 x1 x2 x3 x4 x5_9 w lst lwo)) else (bd1 (M_worthOf x5 w) (fun (r_10 : Int32) => if r_10 < lwo then (M_findLeast_99 rc14 x1 x2 x3 x4 x5 r_10 w lst lwo) else (if r_10 = lwo then (bd1 (M_ones x5) (fun (r_13 : Int32) => bd1 (M_ones lst) (fun (r_14 : Int32) => if r_14 ≤ r_13 then (M_findLeast_103 rc14 x1 x2 x3 x4 x5 r_10 w lst lwo) else (M_findLeast_99 rc14 x1 x2 x3 x4 x5 r_10 w lst lwo)))) else (M_findLeast_103 rc14 x1 x2 x3 x4 x5 r_10 w lst lwo)))))))) else (bnd (x5 + (1 : Int32)) (fun (x5_3 : Int32) => rc14 x1 x2 x3 x4 x5_3 w lst lwo)))
set_option maxHeartbeats 4000000 in
set_option maxRecDepth 100000 in
theorem bM_findLeast_14 {Am : Nat → Nat} {w : Nat → Int32} {kp : Nat → Int32} {tx : Nat → Int32} {td : Int32} {rf : Nat → Int32} {fa : Int64} {fb : Int64} {ap : Int32} {sp : Int32} {iw : Int32} {ig : Int32} {nu : Nat → Int32} {lst : Int32} {lwo : Int32} {hh : Int64} {lst_z : Int32} {lwo_z : Int32} {x1 : Int32} {x2 : Int32} {x3 : Int32} {x4 : Int32} {x5 : Int32} {rc14 : Int32 → Int32 → Int32 → Int32 → Int32 → (Nat → Int32) → Int32 → Int32 → Option (Int32 × Int32)} (X : Cx Γ p s m args meth c RX12 cX12_findLeast 8 none w0) (h14 : ∀ (x1 : Int32) (x2 : Int32) (x3 : Int32) (x4 : Int32) (x5 : Int32) (w : Nat → Int32) (lst : Int32) (lwo : Int32), rc14 x1 x2 x3 x4 x5 w lst lwo = some (lst_z, lwo_z) → ∀ (H : Heap) (locs : List Loc) (ls : Array Slot), Wd Γ w0 s (WM Γ Am w kp tx td rf fa fb ap sp iw ig nu lst lwo hh) H locs → lv_has ls 8 [(0, .ref (Am 0)), (1, .int x1), (2, .int x2), (3, .int x3), (4, .int x4), (5, .int x5)] → W p l e rmM_findLeast s m args below meth c H locs 0 0 (EV Γ below args s w0 (WM Γ Am w kp tx td rf fa fb ap sp iw ig nu lst_z lwo_z hh)) (F0 m 14 ls [])) (hf : M_findLeast_14 rc14 x1 x2 x3 x4 x5 w lst lwo = some (lst_z, lwo_z)) (Y : Wd Γ w0 s (WM Γ Am w kp tx td rf fa fb ap sp iw ig nu lst lwo hh) H locs) (hl : lv_has ls 8 [(0, .ref (Am 0)), (1, .int x1), (2, .int x2), (3, .int x3), (4, .int x4), (5, .int x5)]) : W p l e rmM_findLeast s m args below meth c H locs 0 0 (EV Γ below args s w0 (WM Γ Am w kp tx td rf fa fb ap sp iw ig nu lst_z lwo_z hh)) (F0 m 14 ls []) := by
  have hx := X.1
  have hb := X.2.1
  refine lv_iload hx hb dX12_findLeast_14 (lv_at hl 5 rfl) ?_
  refine lv_sipush (v := (256 : Int32)) hx hb dX12_findLeast_16 (by decide) ?_
  refine lv_icmp_ge (tgt := 148) hx hb dX12_findLeast_19 (by decide) (fun c_1 => ?_) (fun c_1 => ?_)
  · have hf := ite_t hf c_1
    obtain ⟨e90, e91⟩ := sj2 hf
    subst e90
    subst e91
    exact x_vret X Y dX12_findLeast_148
  · have hf := ite_f hf c_1
    refine lv_iload hx hb dX12_findLeast_22 (lv_at hl 5 rfl) ?_
    refine lv_iload_n hx hb dX12_findLeast_24 rfl (lv_at hl 1 rfl) ?_
    refine lv_iconst (v := (-1 : Int32)) hx hb dX12_findLeast_25 (by decide) ?_
    refine lv_ixor hx hb dX12_findLeast_26 ?_
    refine lv_iand hx hb dX12_findLeast_27 ?_
    refine lv_if_ne (tgt := 142) hx hb dX12_findLeast_28 (by decide) (fun c_2 => ?_) (fun c_2 => ?_)
    · have hf := ite_f hf c_2
      obtain ⟨x5_3, e_x5_3⟩ : ∃ z : Int32, z = (x5 + (1 : Int32)) := ⟨_, rfl⟩
      have hf := bnd_eq hf e_x5_3
      refine lv_iinc (v := x5_3) (lv' := [(5, .int x5_3), (0, .ref (Am 0)), (1, .int x1), (2, .int x2), (3, .int x3), (4, .int x4)]) hx hb dX12_findLeast_142 hl (k := 5) rfl (by rw [e_x5_3]; rfl) (by decide) rfl (fun ls hl => ?_)
      refine lv_goto (tgt := 14) hx hb dX12_findLeast_145 (by decide) ?_
      exact h14 _ _ _ _ _ _ _ _ hf _ _ _ Y (lv_sub hl [1, 2, 3, 4, 5, 0] rfl)
    · have hf := ite_t hf c_2
      refine lv_aload_n hx hb dX12_findLeast_31 rfl (lv_at hl 0 rfl) ?_
      refine lv_iload_n hx hb dX12_findLeast_32 rfl (lv_at hl 1 rfl) ?_
      refine lv_iload hx hb dX12_findLeast_33 (lv_at hl 5 rfl) ?_
      refine lv_iconst (v := (-1 : Int32)) hx hb dX12_findLeast_35 (by decide) ?_
      refine lv_ixor hx hb dX12_findLeast_36 ?_
      refine lv_iand hx hb dX12_findLeast_37 ?_
      refine lv_iload_n hx hb dX12_findLeast_38 rfl (lv_at hl 2 rfl) ?_
      obtain ⟨r_4, ho_20, hf⟩ := bd1_some hf
      refine t_i Y (bkS Y) (r_V (As := [.int (x1 &&& (x5 ^^^ (-1 : Int32))), .int x2]) (rest := []) X (c_preS X Y) (cM_isAlive ho_20) (cwX12_166 X (by decide)) (va_recv X.K Y.1 (q := (RX12, TX12, 15)) (q0 := 0) (ci := 12) rfl rfl) rfl hl.1 (Nat.le_of_ble_eq_true rfl) rfl dX12_findLeast_39 ⟨Nat.zero_le _, Nat.zero_le _⟩) (fun H locs Y => ?_)
      refine lv_if_eq (tgt := 142) hx hb dX12_findLeast_42 (by decide) (fun c_5 => ?_) (fun c_5 => ?_)
      · have hf := ite_t hf c_5
        obtain ⟨x5_6, e_x5_6⟩ : ∃ z : Int32, z = (x5 + (1 : Int32)) := ⟨_, rfl⟩
        have hf := bnd_eq hf e_x5_6
        refine lv_iinc (v := x5_6) (lv' := [(5, .int x5_6), (0, .ref (Am 0)), (1, .int x1), (2, .int x2), (3, .int x3), (4, .int x4)]) hx hb dX12_findLeast_142 hl (k := 5) rfl (by rw [e_x5_6]; rfl) (by decide) rfl (fun ls hl => ?_)
        refine lv_goto (tgt := 14) hx hb dX12_findLeast_145 (by decide) ?_
        exact h14 _ _ _ _ _ _ _ _ hf _ _ _ Y (lv_sub hl [1, 2, 3, 4, 5, 0] rfl)
      · have hf := ite_f hf c_5
        refine lv_aload_n hx hb dX12_findLeast_45 rfl (lv_at hl 0 rfl) ?_
        refine lv_iload_n hx hb dX12_findLeast_46 rfl (lv_at hl 1 rfl) ?_
        refine lv_iload hx hb dX12_findLeast_47 (lv_at hl 5 rfl) ?_
        refine lv_iload_n hx hb dX12_findLeast_49 rfl (lv_at hl 3 rfl) ?_
        refine lv_iload hx hb dX12_findLeast_50 (lv_at hl 4 rfl) ?_
        obtain ⟨r_7, ho_19, hf⟩ := bd1_some hf
        refine t_i Y (bkS Y) (r_V (As := [.int x1, .int x5, .int x3, .int x4]) (rest := []) X (c_preS X Y) (cM_canGo ho_19) (cwX12_201 X (by decide)) (va_recv X.K Y.1 (q := (RX12, TX12, 15)) (q0 := 0) (ci := 12) rfl rfl) rfl hl.1 (Nat.le_of_ble_eq_true rfl) rfl dX12_findLeast_52 ⟨Nat.zero_le _, Nat.zero_le _⟩) (fun H locs Y => ?_)
        refine lv_if_eq (tgt := 142) hx hb dX12_findLeast_55 (by decide) (fun c_8 => ?_) (fun c_8 => ?_)
        · have hf := ite_t hf c_8
          obtain ⟨x5_9, e_x5_9⟩ : ∃ z : Int32, z = (x5 + (1 : Int32)) := ⟨_, rfl⟩
          have hf := bnd_eq hf e_x5_9
          refine lv_iinc (v := x5_9) (lv' := [(5, .int x5_9), (0, .ref (Am 0)), (1, .int x1), (2, .int x2), (3, .int x3), (4, .int x4)]) hx hb dX12_findLeast_142 hl (k := 5) rfl (by rw [e_x5_9]; rfl) (by decide) rfl (fun ls hl => ?_)
          refine lv_goto (tgt := 14) hx hb dX12_findLeast_145 (by decide) ?_
          exact h14 _ _ _ _ _ _ _ _ hf _ _ _ Y (lv_sub hl [1, 2, 3, 4, 5, 0] rfl)
        · have hf := ite_f hf c_8
          refine lv_aload_n hx hb dX12_findLeast_58 rfl (lv_at hl 0 rfl) ?_
          refine lv_iload hx hb dX12_findLeast_59 (lv_at hl 5 rfl) ?_
          obtain ⟨r_10, ho_18, hf⟩ := bd1_some hf
          refine t_i Y (bkS Y) (r_V (As := [.int x5]) (rest := []) X (c_preS X Y) (cM_worthOf ho_18) (cwX12_175 X (by decide)) (va_recv X.K Y.1 (q := (RX12, TX12, 15)) (q0 := 0) (ci := 12) rfl rfl) rfl hl.1 (Nat.le_of_ble_eq_true rfl) rfl dX12_findLeast_61 ⟨Nat.zero_le _, Nat.zero_le _⟩) (fun H locs Y => ?_)
          refine lv_istore (lv' := [(6, .int r_10), (0, .ref (Am 0)), (1, .int x1), (2, .int x2), (3, .int x3), (4, .int x4), (5, .int x5)]) hx hb dX12_findLeast_64 hl (by decide) rfl (fun ls hl => ?_)
          refine lv_iload hx hb dX12_findLeast_66 (lv_at hl 0 rfl) ?_
          refine lv_aload_n hx hb dX12_findLeast_68 rfl (lv_at hl 1 rfl) ?_
          refine gfX12_198 X Y (v := .int lwo) 0 rfl rfl dX12_findLeast_69 ?_
          refine lv_icmp_lt (tgt := 99) hx hb dX12_findLeast_72 (by decide) (fun c_11 => ?_) (fun c_11 => ?_)
          · have hf := ite_t hf c_11
            exact bM_findLeast_99 X h14 hf Y (lv_sub hl [1, 2, 3, 4, 5, 6, 0] rfl)
          · have hf := ite_f hf c_11
            refine lv_iload hx hb dX12_findLeast_75 (lv_at hl 0 rfl) ?_
            refine lv_aload_n hx hb dX12_findLeast_77 rfl (lv_at hl 1 rfl) ?_
            refine gfX12_198 X Y (v := .int lwo) 0 rfl rfl dX12_findLeast_78 ?_
            refine lv_icmp_ne (tgt := 103) hx hb dX12_findLeast_81 (by decide) (fun c_12 => ?_) (fun c_12 => ?_)
            · have hf := ite_f hf c_12
              exact bM_findLeast_103 X h14 hf Y (lv_sub hl [1, 2, 3, 4, 5, 6, 0] rfl)
            · have hf := ite_t hf c_12
              refine lv_iload hx hb dX12_findLeast_84 (lv_at hl 6 rfl) ?_
              obtain ⟨r_13, ho_17, hf⟩ := bd1_some hf
              refine t_i Y (bk0 Y) (r_S (As := [.int x5]) (rest := []) X (c_pre0 X Y) (cM_ones ho_17) (cwX12_155 X (by decide)) rfl hl.1 (Nat.le_of_ble_eq_true rfl) rfl dX12_findLeast_86 ⟨Nat.zero_le _, Nat.zero_le _⟩) (fun H locs Y => ?_)
              refine lv_aload_n hx hb dX12_findLeast_89 rfl (lv_at hl 1 rfl) ?_
              refine gfX12_194 X Y (v := .int lst) 0 rfl rfl dX12_findLeast_90 ?_
              obtain ⟨r_14, ho_16, hf⟩ := bd1_some hf
              refine t_i Y (bk0 Y) (r_S (As := [.int lst]) (rest := [.int r_13]) X (c_pre0 X Y) (cM_ones ho_16) (cwX12_155 X (by decide)) rfl hl.1 (Nat.le_of_ble_eq_true rfl) rfl dX12_findLeast_93 ⟨Nat.zero_le _, Nat.zero_le _⟩) (fun H locs Y => ?_)
              refine lv_icmp_ge (tgt := 103) hx hb dX12_findLeast_96 (by decide) (fun c_15 => ?_) (fun c_15 => ?_)
              · have hf := ite_t hf c_15
                exact bM_findLeast_103 X h14 hf Y (lv_sub hl [1, 2, 3, 4, 5, 6, 0] rfl)
              · have hf := ite_f hf c_15
                exact bM_findLeast_99 X h14 hf Y (lv_sub hl [1, 2, 3, 4, 5, 6, 0] rfl)
def M_findLeast_L14 : Nat → Int32 → Int32 → Int32 → Int32 → Int32 → (Nat → Int32) → Int32 → Int32 → Option (Int32 × Int32)
  | 0, _, _, _, _, _, _, _, _ => none
  | n + 1, x1, x2, x3, x4, x5, w, lst, lwo => M_findLeast_14 (M_findLeast_L14 n) x1 x2 x3 x4 x5 w lst lwo
theorem lM_findLeast_14 {Am : Nat → Nat} {kp : Nat → Int32} {tx : Nat → Int32} {td : Int32} {rf : Nat → Int32} {fa : Int64} {fb : Int64} {ap : Int32} {sp : Int32} {iw : Int32} {ig : Int32} {nu : Nat → Int32} {hh : Int64} {lst_z : Int32} {lwo_z : Int32} (X : Cx Γ p s m args meth c RX12 cX12_findLeast 8 none w0) : ∀ (n : Nat) (x1 : Int32) (x2 : Int32) (x3 : Int32) (x4 : Int32) (x5 : Int32) (w : Nat → Int32) (lst : Int32) (lwo : Int32), M_findLeast_L14 n x1 x2 x3 x4 x5 w lst lwo = some (lst_z, lwo_z) → ∀ (H : Heap) (locs : List Loc) (ls : Array Slot), Wd Γ w0 s (WM Γ Am w kp tx td rf fa fb ap sp iw ig nu lst lwo hh) H locs → lv_has ls 8 [(0, .ref (Am 0)), (1, .int x1), (2, .int x2), (3, .int x3), (4, .int x4), (5, .int x5)] → W p l e rmM_findLeast s m args below meth c H locs 0 0 (EV Γ below args s w0 (WM Γ Am w kp tx td rf fa fb ap sp iw ig nu lst_z lwo_z hh)) (F0 m 14 ls []) := by
  intro n
  induction n with
  | zero => intro x1 x2 x3 x4 x5 w lst lwo hf; cases hf
  | succ n ih => intro x1 x2 x3 x4 x5 w lst lwo hf H locs ls Y hl; exact bM_findLeast_14 X ih hf Y hl
def M_findLeast (x1 : Int32) (x2 : Int32) (x3 : Int32) (x4 : Int32) (w : Nat → Int32) (lst : Int32) (lwo : Int32) : Option (Int32 × Int32) := M_findLeast_L14 FU x1 x2 x3 x4 (0 : Int32) w (-1 : Int32) (1000000 : Int32)
set_option maxHeartbeats 4000000 in
set_option maxRecDepth 100000 in
theorem bM_findLeast_e {Am : Nat → Nat} {w : Nat → Int32} {kp : Nat → Int32} {tx : Nat → Int32} {td : Int32} {rf : Nat → Int32} {fa : Int64} {fb : Int64} {ap : Int32} {sp : Int32} {iw : Int32} {ig : Int32} {nu : Nat → Int32} {lst : Int32} {lwo : Int32} {hh : Int64} {lst_z : Int32} {lwo_z : Int32} {x1 : Int32} {x2 : Int32} {x3 : Int32} {x4 : Int32} (X : Cx Γ p s m args meth c RX12 cX12_findLeast 8 none w0) (hf : M_findLeast x1 x2 x3 x4 w lst lwo = some (lst_z, lwo_z)) (Y : Wd Γ w0 s (WM Γ Am w kp tx td rf fa fb ap sp iw ig nu lst lwo hh) H locs) (hl : lv_has ls 8 [(0, .ref (Am 0)), (1, .int x1), (2, .int x2), (3, .int x3), (4, .int x4)]) : W p l e rmM_findLeast s m args below meth c H locs 0 0 (EV Γ below args s w0 (WM Γ Am w kp tx td rf fa fb ap sp iw ig nu lst_z lwo_z hh)) (F0 m 0 ls []) := by
  have hx := X.1
  have hb := X.2.1
  refine lv_aload_n hx hb dX12_findLeast_0 rfl (lv_at hl 0 rfl) ?_
  refine lv_iconst (v := (-1 : Int32)) hx hb dX12_findLeast_1 (by decide) ?_
  refine pfX12_194 X Y 0 rfl rfl rfl (Nat.le_of_ble_eq_true rfl) (ws' := (WM Γ Am w kp tx td rf fa fb ap sp iw ig nu (-1 : Int32) lwo hh)) rfl dX12_findLeast_2 (fun H locs Y => ?_)
  refine lv_aload_n hx hb dX12_findLeast_5 rfl (lv_at hl 0 rfl) ?_
  refine lv_ldc (v := (1000000 : Int32)) hx hb X.2.2.2.1 (X.2.2.2.2.1 _ kw156) dX12_findLeast_6 ?_
  refine pfX12_198 X Y 0 rfl rfl rfl (Nat.le_of_ble_eq_true rfl) (ws' := (WM Γ Am w kp tx td rf fa fb ap sp iw ig nu (-1 : Int32) (1000000 : Int32) hh)) rfl dX12_findLeast_8 (fun H locs Y => ?_)
  refine lv_iconst (v := (0 : Int32)) hx hb dX12_findLeast_11 (by decide) ?_
  refine lv_istore (lv' := [(5, .int (0 : Int32)), (0, .ref (Am 0)), (1, .int x1), (2, .int x2), (3, .int x3), (4, .int x4)]) hx hb dX12_findLeast_12 hl (by decide) rfl (fun ls hl => ?_)
  exact lM_findLeast_14 X _ _ _ _ _ _ _ _ _ hf _ _ _ Y (lv_sub hl [1, 2, 3, 4, 5, 0] rfl)
theorem cM_findLeast {l : Launch} {Γ : Gm} {Am : Nat → Nat} {w : Nat → Int32} {kp : Nat → Int32} {tx : Nat → Int32} {td : Int32} {rf : Nat → Int32} {fa : Int64} {fb : Int64} {ap : Int32} {sp : Int32} {iw : Int32} {ig : Int32} {nu : Nat → Int32} {lst : Int32} {lwo : Int32} {hh : Int64} {lst_z : Int32} {lwo_z : Int32} {x1 : Int32} {x2 : Int32} {x3 : Int32} {x4 : Int32} (h : M_findLeast x1 x2 x3 x4 w lst lwo = some (lst_z, lwo_z)) : CV l Γ yX12_findLeast (Cond.code yX12_findLeast cX12_findLeast 8 none :: GW) rmM_findLeast [.ref (Am 0), .int x1, .int x2, .int x3, .int x4] (WM Γ Am w kp tx td rf fa fb ap sp iw ig nu lst lwo hh) (WM Γ Am w kp tx td rf fa fb ap sp iw ig nu lst_z lwo_z hh) := ofBody (Qc := QcV Γ _ _) (by decide) (Nat.le_of_ble_eq_true rfl) (fun p e s m below meth c ls _ X Y hl => bM_findLeast_e X h Y hl)
theorem dmX12_findLeastV : yX12_findLeast.cls = RX12 ∧ yX12_findLeast.cls ≠ "java/lang/invoke/MethodHandle" ∧ yX12_findLeast.cls ≠ "java/lang/invoke/VarHandle" ∧ (parseMethodDescriptor yX12_findLeast.desc).map (fun d => d.parameters.length) = some 4 := by decide +kernel
theorem cwX12_208 (X : Cx Γ p s m args meth c RX12 cc nL ret w0) (hR : rmM_findLeast.frames + 1 ≤ R.frames ∧ 8 + (8 + 11) + rmM_findLeast.locals ≤ R.locals) : CallW R s args RX12 RX12 208 yX12_findLeast cX12_findLeast 8 none (Cond.code yX12_findLeast cX12_findLeast 8 none :: GW) rmM_findLeast 0 0 4 := cw_V X kw162 kw163 kw164 kw4 kw165 dmX12_findLeastV rfl rfl hR
theorem dmX12_badAsV : yX12_badAs.cls = RX12 ∧ yX12_badAs.cls ≠ "java/lang/invoke/MethodHandle" ∧ yX12_badAs.cls ≠ "java/lang/invoke/VarHandle" ∧ (parseMethodDescriptor yX12_badAs.desc).map (fun d => d.parameters.length) = some 1 := by decide +kernel
theorem cwX12_205 (X : Cx Γ p s m args meth c RX12 cc nL ret w0) (hR : rmM_badAs.frames + 1 ≤ R.frames ∧ 8 + (2 + 11) + rmM_badAs.locals ≤ R.locals) : CallW R s args RX12 RX12 205 yX12_badAs cX12_badAs 2 (some .int) (Cond.code yX12_badAs cX12_badAs 2 (some .int) :: GW) rmM_badAs 0 0 1 := cw_V X kw166 kw167 kw168 kw4 kw169 dmX12_badAsV rfl rfl hR
def rmM_least : Room := { frames := 4, cells := 0, slots := 0, locals := 104 }
def M_least_13 (w : Nat → Int32) (rf : Nat → Int32) (lst : Int32) (lwo : Int32) : Option (Int32 × (Nat → Int32) × Int32 × Int32) := bd2 (M_badAs (-10 : Int32) rf) (fun (r_1 : Int32) (rf_2 : Nat → Int32) => some (r_1, rf_2, lst, lwo))
set_option maxHeartbeats 4000000 in
set_option maxRecDepth 100000 in
theorem bM_least_13 {Am : Nat → Nat} {w : Nat → Int32} {kp : Nat → Int32} {tx : Nat → Int32} {td : Int32} {rf : Nat → Int32} {fa : Int64} {fb : Int64} {ap : Int32} {sp : Int32} {iw : Int32} {ig : Int32} {nu : Nat → Int32} {lst : Int32} {lwo : Int32} {hh : Int64} {rf_z : Nat → Int32} {lst_z : Int32} {lwo_z : Int32} {r0 : Int32} (X : Cx Γ p s m args meth c RX12 cX12_least 8 (some .int) w0) (hf : M_least_13 w rf lst lwo = some (r0, rf_z, lst_z, lwo_z)) (Y : Wd Γ w0 s (WM Γ Am w kp tx td rf fa fb ap sp iw ig nu lst lwo hh) H locs) (hl : lv_has ls 8 [(0, .ref (Am 0))]) : W p l e rmM_least s m args below meth c H locs 0 0 (EI Γ below args s w0 (WM Γ Am w kp tx td rf_z fa fb ap sp iw ig nu lst_z lwo_z hh) r0) (F0 m 13 ls []) := by
  have hx := X.1
  have hb := X.2.1
  refine lv_aload_n hx hb dX12_least_13 rfl (lv_at hl 0 rfl) ?_
  refine lv_bipush (v := (-10 : Int32)) hx hb dX12_least_14 (by decide) ?_
  obtain ⟨r_1, rf_2, ho_3, hf⟩ := bd2_some hf
  refine t_i Y (bkS Y) (r_V (As := [.int (-10 : Int32)]) (rest := []) X (c_preS X Y) (cM_badAs ho_3) (cwX12_205 X (by decide)) (va_recv X.K Y.1 (q := (RX12, TX12, 15)) (q0 := 0) (ci := 12) rfl rfl) rfl hl.1 (Nat.le_of_ble_eq_true rfl) rfl dX12_least_16 ⟨Nat.zero_le _, Nat.zero_le _⟩) (fun H locs Y => ?_)
  obtain ⟨e90, e91, e92, e93⟩ := sj4 hf
  subst e90
  subst e91
  subst e92
  subst e93
  exact x_iret X Y dX12_least_19
def M_least_111 (rc98 : Int32 → Int32 → Int32 → Int32 → Int32 → (Nat → Int32) → (Nat → Int32) → Int32 → Int32 → Option (Int32 × (Nat → Int32) × Int32 × Int32)) (rc111 : Int32 → Int32 → Int32 → Int32 → Int32 → Int32 → (Nat → Int32) → (Nat → Int32) → Int32 → Int32 → Option (Int32 × (Nat → Int32) × Int32 × Int32)) (x2 : Int32) (x3 : Int32) (x4 : Int32) (x5 : Int32) (x6 : Int32) (x7 : Int32) (w : Nat → Int32) (rf : Nat → Int32) (lst : Int32) (lwo : Int32) : Option (Int32 × (Nat → Int32) × Int32 × Int32) := if x7 < 0 then (bnd (x4 &&& (((1 : Int32) <<< (x5 &&& 31)) ^^^ (-1 : Int32))) (fun (x4_2 : Int32) => bnd (x3 &&& (((1 : Int32) <<< (x5 &&& 31)) ^^^ (-1 : Int32))) (fun (x3_3 : Int32) => bnd (x6 + (1 : Int32)) (fun (x6_4 : Int32) => rc98 x2 x3_3 x4_2 x5 x6_4 w rf lst lwo)))) else (bd1 (M_has x4 x7) (fun (r_5 : Int32) => if r_5 = 0 then (bnd (x7 + (-1 : Int32)) (fun (x7_7 : Int32) => rc111 x2 x3 x4 x5 x6 x7_7 w rf lst lwo)) else (bd1 (M_isTop (0 : Int32) x3 x7 (-1 : Int32) (0 : Int32) w) (fun (r_8 : Int32) => if r_8 = 0 then (bnd (x7 + (-1 : Int32)) (fun (x7_10 : Int32) => rc111 x2 x3 x4 x5 x6 x7_10 w rf lst lwo)) else (bnd (x7 + (-1 : Int32)) (fun (x7_11 : Int32) => rc111 x2 x3 x4 x7 x6 x7_11 w rf lst lwo))))))
set_option maxHeartbeats 4000000 in
set_option maxRecDepth 100000 in
theorem bM_least_111 {Am : Nat → Nat} {w : Nat → Int32} {kp : Nat → Int32} {tx : Nat → Int32} {td : Int32} {rf : Nat → Int32} {fa : Int64} {fb : Int64} {ap : Int32} {sp : Int32} {iw : Int32} {ig : Int32} {nu : Nat → Int32} {lst : Int32} {lwo : Int32} {hh : Int64} {rf_z : Nat → Int32} {lst_z : Int32} {lwo_z : Int32} {r0 : Int32} {x2 : Int32} {x3 : Int32} {x4 : Int32} {x5 : Int32} {x6 : Int32} {x7 : Int32} {rc98 : Int32 → Int32 → Int32 → Int32 → Int32 → (Nat → Int32) → (Nat → Int32) → Int32 → Int32 → Option (Int32 × (Nat → Int32) × Int32 × Int32)} {rc111 : Int32 → Int32 → Int32 → Int32 → Int32 → Int32 → (Nat → Int32) → (Nat → Int32) → Int32 → Int32 → Option (Int32 × (Nat → Int32) × Int32 × Int32)} (X : Cx Γ p s m args meth c RX12 cX12_least 8 (some .int) w0) (h98 : ∀ (x2 : Int32) (x3 : Int32) (x4 : Int32) (x5 : Int32) (x6 : Int32) (w : Nat → Int32) (rf : Nat → Int32) (lst : Int32) (lwo : Int32), rc98 x2 x3 x4 x5 x6 w rf lst lwo = some (r0, rf_z, lst_z, lwo_z) → ∀ (H : Heap) (locs : List Loc) (ls : Array Slot), Wd Γ w0 s (WM Γ Am w kp tx td rf fa fb ap sp iw ig nu lst lwo hh) H locs → lv_has ls 8 [(0, .ref (Am 0)), (2, .int x2), (3, .int x3), (4, .int x4), (5, .int x5), (6, .int x6)] → W p l e rmM_least s m args below meth c H locs 0 0 (EI Γ below args s w0 (WM Γ Am w kp tx td rf_z fa fb ap sp iw ig nu lst_z lwo_z hh) r0) (F0 m 98 ls [])) (h111 : ∀ (x2 : Int32) (x3 : Int32) (x4 : Int32) (x5 : Int32) (x6 : Int32) (x7 : Int32) (w : Nat → Int32) (rf : Nat → Int32) (lst : Int32) (lwo : Int32), rc111 x2 x3 x4 x5 x6 x7 w rf lst lwo = some (r0, rf_z, lst_z, lwo_z) → ∀ (H : Heap) (locs : List Loc) (ls : Array Slot), Wd Γ w0 s (WM Γ Am w kp tx td rf fa fb ap sp iw ig nu lst lwo hh) H locs → lv_has ls 8 [(0, .ref (Am 0)), (2, .int x2), (3, .int x3), (4, .int x4), (5, .int x5), (6, .int x6), (7, .int x7)] → W p l e rmM_least s m args below meth c H locs 0 0 (EI Γ below args s w0 (WM Γ Am w kp tx td rf_z fa fb ap sp iw ig nu lst_z lwo_z hh) r0) (F0 m 111 ls [])) (hf : M_least_111 rc98 rc111 x2 x3 x4 x5 x6 x7 w rf lst lwo = some (r0, rf_z, lst_z, lwo_z)) (Y : Wd Γ w0 s (WM Γ Am w kp tx td rf fa fb ap sp iw ig nu lst lwo hh) H locs) (hl : lv_has ls 8 [(0, .ref (Am 0)), (2, .int x2), (3, .int x3), (4, .int x4), (5, .int x5), (6, .int x6), (7, .int x7)]) : W p l e rmM_least s m args below meth c H locs 0 0 (EI Γ below args s w0 (WM Γ Am w kp tx td rf_z fa fb ap sp iw ig nu lst_z lwo_z hh) r0) (F0 m 111 ls []) := by
  have hx := X.1
  have hb := X.2.1
  refine lv_iload hx hb dX12_least_111 (lv_at hl 6 rfl) ?_
  refine lv_if_lt (tgt := 154) hx hb dX12_least_113 (by decide) (fun c_1 => ?_) (fun c_1 => ?_)
  · have hf := ite_t hf c_1
    refine lv_iload hx hb dX12_least_154 (lv_at hl 3 rfl) ?_
    refine lv_iconst (v := (1 : Int32)) hx hb dX12_least_156 (by decide) ?_
    refine lv_iload hx hb dX12_least_157 (lv_at hl 4 rfl) ?_
    refine lv_ishl hx hb dX12_least_159 ?_
    refine lv_iconst (v := (-1 : Int32)) hx hb dX12_least_160 (by decide) ?_
    refine lv_ixor hx hb dX12_least_161 ?_
    refine lv_iand hx hb dX12_least_162 ?_
    refine lv_topi (fun x4_2 e_x4_2 => ?_)
    have hf := bnd_eq hf e_x4_2
    refine lv_istore (lv' := [(4, .int x4_2), (0, .ref (Am 0)), (2, .int x2), (3, .int x3), (5, .int x5), (6, .int x6), (7, .int x7)]) hx hb dX12_least_163 hl (by decide) rfl (fun ls hl => ?_)
    refine lv_iload_n hx hb dX12_least_165 rfl (lv_at hl 3 rfl) ?_
    refine lv_iconst (v := (1 : Int32)) hx hb dX12_least_166 (by decide) ?_
    refine lv_iload hx hb dX12_least_167 (lv_at hl 4 rfl) ?_
    refine lv_ishl hx hb dX12_least_169 ?_
    refine lv_iconst (v := (-1 : Int32)) hx hb dX12_least_170 (by decide) ?_
    refine lv_ixor hx hb dX12_least_171 ?_
    refine lv_iand hx hb dX12_least_172 ?_
    refine lv_topi (fun x3_3 e_x3_3 => ?_)
    have hf := bnd_eq hf e_x3_3
    refine lv_istore_n (lv' := [(3, .int x3_3), (4, .int x4_2), (0, .ref (Am 0)), (2, .int x2), (5, .int x5), (6, .int x6), (7, .int x7)]) hx hb dX12_least_173 rfl hl (by decide) rfl (fun ls hl => ?_)
    obtain ⟨x6_4, e_x6_4⟩ : ∃ z : Int32, z = (x6 + (1 : Int32)) := ⟨_, rfl⟩
    have hf := bnd_eq hf e_x6_4
    refine lv_iinc (v := x6_4) (lv' := [(6, .int x6_4), (3, .int x3_3), (4, .int x4_2), (0, .ref (Am 0)), (2, .int x2), (5, .int x5), (7, .int x7)]) hx hb dX12_least_174 hl (k := 5) rfl (by rw [e_x6_4]; rfl) (by decide) rfl (fun ls hl => ?_)
    refine lv_goto (tgt := 98) hx hb dX12_least_177 (by decide) ?_
    exact h98 _ _ _ _ _ _ _ _ _ hf _ _ _ Y (lv_sub hl [3, 4, 1, 2, 5, 0] rfl)
  · have hf := ite_f hf c_1
    refine lv_iload hx hb dX12_least_116 (lv_at hl 3 rfl) ?_
    refine lv_iload hx hb dX12_least_118 (lv_at hl 6 rfl) ?_
    obtain ⟨r_5, ho_13, hf⟩ := bd1_some hf
    refine t_i Y (bk0 Y) (r_S (As := [.int x4, .int x7]) (rest := []) X (c_pre0 X Y) (cM_has ho_13) (cwX12_70 X (by decide)) rfl hl.1 (Nat.le_of_ble_eq_true rfl) rfl dX12_least_120 ⟨Nat.zero_le _, Nat.zero_le _⟩) (fun H locs Y => ?_)
    refine lv_if_eq (tgt := 144) hx hb dX12_least_123 (by decide) (fun c_6 => ?_) (fun c_6 => ?_)
    · have hf := ite_t hf c_6
      refine lv_iload hx hb dX12_least_144 (lv_at hl 4 rfl) ?_
      refine lv_istore (lv' := [(5, .int x5), (0, .ref (Am 0)), (2, .int x2), (3, .int x3), (4, .int x4), (6, .int x6), (7, .int x7)]) hx hb dX12_least_146 hl (by decide) rfl (fun ls hl => ?_)
      obtain ⟨x7_7, e_x7_7⟩ : ∃ z : Int32, z = (x7 + (-1 : Int32)) := ⟨_, rfl⟩
      have hf := bnd_eq hf e_x7_7
      refine lv_iinc (v := x7_7) (lv' := [(7, .int x7_7), (5, .int x5), (0, .ref (Am 0)), (2, .int x2), (3, .int x3), (4, .int x4), (6, .int x6)]) hx hb dX12_least_148 hl (k := 6) rfl (by rw [e_x7_7]; rfl) (by decide) rfl (fun ls hl => ?_)
      refine lv_goto (tgt := 111) hx hb dX12_least_151 (by decide) ?_
      exact h111 _ _ _ _ _ _ _ _ _ _ hf _ _ _ Y (lv_sub hl [2, 3, 4, 5, 1, 6, 0] rfl)
    · have hf := ite_f hf c_6
      refine lv_aload_n hx hb dX12_least_126 rfl (lv_at hl 0 rfl) ?_
      refine lv_iconst (v := (0 : Int32)) hx hb dX12_least_127 (by decide) ?_
      refine lv_iload_n hx hb dX12_least_128 rfl (lv_at hl 2 rfl) ?_
      refine lv_iload hx hb dX12_least_129 (lv_at hl 6 rfl) ?_
      refine lv_iconst (v := (-1 : Int32)) hx hb dX12_least_131 (by decide) ?_
      refine lv_iconst (v := (0 : Int32)) hx hb dX12_least_132 (by decide) ?_
      obtain ⟨r_8, ho_12, hf⟩ := bd1_some hf
      refine t_i Y (bkS Y) (r_V (As := [.int (0 : Int32), .int x3, .int x7, .int (-1 : Int32), .int (0 : Int32)]) (rest := []) X (c_preS X Y) (cM_isTop ho_12) (cwX12_74 X (by decide)) (va_recv X.K Y.1 (q := (RX12, TX12, 15)) (q0 := 0) (ci := 12) rfl rfl) rfl hl.1 (Nat.le_of_ble_eq_true rfl) rfl dX12_least_133 ⟨Nat.zero_le _, Nat.zero_le _⟩) (fun H locs Y => ?_)
      refine lv_if_eq (tgt := 144) hx hb dX12_least_136 (by decide) (fun c_9 => ?_) (fun c_9 => ?_)
      · have hf := ite_t hf c_9
        refine lv_iload hx hb dX12_least_144 (lv_at hl 4 rfl) ?_
        refine lv_istore (lv' := [(5, .int x5), (0, .ref (Am 0)), (2, .int x2), (3, .int x3), (4, .int x4), (6, .int x6), (7, .int x7)]) hx hb dX12_least_146 hl (by decide) rfl (fun ls hl => ?_)
        obtain ⟨x7_10, e_x7_10⟩ : ∃ z : Int32, z = (x7 + (-1 : Int32)) := ⟨_, rfl⟩
        have hf := bnd_eq hf e_x7_10
        refine lv_iinc (v := x7_10) (lv' := [(7, .int x7_10), (5, .int x5), (0, .ref (Am 0)), (2, .int x2), (3, .int x3), (4, .int x4), (6, .int x6)]) hx hb dX12_least_148 hl (k := 6) rfl (by rw [e_x7_10]; rfl) (by decide) rfl (fun ls hl => ?_)
        refine lv_goto (tgt := 111) hx hb dX12_least_151 (by decide) ?_
        exact h111 _ _ _ _ _ _ _ _ _ _ hf _ _ _ Y (lv_sub hl [2, 3, 4, 5, 1, 6, 0] rfl)
      · have hf := ite_f hf c_9
        refine lv_iload hx hb dX12_least_139 (lv_at hl 6 rfl) ?_
        refine lv_goto (tgt := 146) hx hb dX12_least_141 (by decide) ?_
        refine lv_istore (lv' := [(5, .int x7), (0, .ref (Am 0)), (2, .int x2), (3, .int x3), (4, .int x4), (6, .int x6), (7, .int x7)]) hx hb dX12_least_146 hl (by decide) rfl (fun ls hl => ?_)
        obtain ⟨x7_11, e_x7_11⟩ : ∃ z : Int32, z = (x7 + (-1 : Int32)) := ⟨_, rfl⟩
        have hf := bnd_eq hf e_x7_11
        refine lv_iinc (v := x7_11) (lv' := [(7, .int x7_11), (5, .int x7), (0, .ref (Am 0)), (2, .int x2), (3, .int x3), (4, .int x4), (6, .int x6)]) hx hb dX12_least_148 hl (k := 6) rfl (by rw [e_x7_11]; rfl) (by decide) rfl (fun ls hl => ?_)
        refine lv_goto (tgt := 111) hx hb dX12_least_151 (by decide) ?_
        exact h111 _ _ _ _ _ _ _ _ _ _ hf _ _ _ Y (lv_sub hl [2, 3, 4, 5, 1, 6, 0] rfl)
def M_least_L111 (rc98 : Int32 → Int32 → Int32 → Int32 → Int32 → (Nat → Int32) → (Nat → Int32) → Int32 → Int32 → Option (Int32 × (Nat → Int32) × Int32 × Int32)) : Nat → Int32 → Int32 → Int32 → Int32 → Int32 → Int32 → (Nat → Int32) → (Nat → Int32) → Int32 → Int32 → Option (Int32 × (Nat → Int32) × Int32 × Int32)
  | 0, _, _, _, _, _, _, _, _, _, _ => none
  | n + 1, x2, x3, x4, x5, x6, x7, w, rf, lst, lwo => M_least_111 rc98 (M_least_L111 rc98 n) x2 x3 x4 x5 x6 x7 w rf lst lwo
theorem lM_least_111 {Am : Nat → Nat} {kp : Nat → Int32} {tx : Nat → Int32} {td : Int32} {fa : Int64} {fb : Int64} {ap : Int32} {sp : Int32} {iw : Int32} {ig : Int32} {nu : Nat → Int32} {hh : Int64} {rf_z : Nat → Int32} {lst_z : Int32} {lwo_z : Int32} {r0 : Int32} {rc98 : Int32 → Int32 → Int32 → Int32 → Int32 → (Nat → Int32) → (Nat → Int32) → Int32 → Int32 → Option (Int32 × (Nat → Int32) × Int32 × Int32)} (X : Cx Γ p s m args meth c RX12 cX12_least 8 (some .int) w0) (h98 : ∀ (x2 : Int32) (x3 : Int32) (x4 : Int32) (x5 : Int32) (x6 : Int32) (w : Nat → Int32) (rf : Nat → Int32) (lst : Int32) (lwo : Int32), rc98 x2 x3 x4 x5 x6 w rf lst lwo = some (r0, rf_z, lst_z, lwo_z) → ∀ (H : Heap) (locs : List Loc) (ls : Array Slot), Wd Γ w0 s (WM Γ Am w kp tx td rf fa fb ap sp iw ig nu lst lwo hh) H locs → lv_has ls 8 [(0, .ref (Am 0)), (2, .int x2), (3, .int x3), (4, .int x4), (5, .int x5), (6, .int x6)] → W p l e rmM_least s m args below meth c H locs 0 0 (EI Γ below args s w0 (WM Γ Am w kp tx td rf_z fa fb ap sp iw ig nu lst_z lwo_z hh) r0) (F0 m 98 ls [])) : ∀ (n : Nat) (x2 : Int32) (x3 : Int32) (x4 : Int32) (x5 : Int32) (x6 : Int32) (x7 : Int32) (w : Nat → Int32) (rf : Nat → Int32) (lst : Int32) (lwo : Int32), M_least_L111 rc98 n x2 x3 x4 x5 x6 x7 w rf lst lwo = some (r0, rf_z, lst_z, lwo_z) → ∀ (H : Heap) (locs : List Loc) (ls : Array Slot), Wd Γ w0 s (WM Γ Am w kp tx td rf fa fb ap sp iw ig nu lst lwo hh) H locs → lv_has ls 8 [(0, .ref (Am 0)), (2, .int x2), (3, .int x3), (4, .int x4), (5, .int x5), (6, .int x6), (7, .int x7)] → W p l e rmM_least s m args below meth c H locs 0 0 (EI Γ below args s w0 (WM Γ Am w kp tx td rf_z fa fb ap sp iw ig nu lst_z lwo_z hh) r0) (F0 m 111 ls []) := by
  intro n
  induction n with
  | zero => intro x2 x3 x4 x5 x6 x7 w rf lst lwo hf; cases hf
  | succ n ih => intro x2 x3 x4 x5 x6 x7 w rf lst lwo hf H locs ls Y hl; exact bM_least_111 X h98 ih hf Y hl
def M_least_98 (rc98 : Int32 → Int32 → Int32 → Int32 → Int32 → (Nat → Int32) → (Nat → Int32) → Int32 → Int32 → Option (Int32 × (Nat → Int32) × Int32 × Int32)) (x2 : Int32) (x3 : Int32) (x4 : Int32) (x5 : Int32) (x6 : Int32) (w : Nat → Int32) (rf : Nat → Int32) (lst : Int32) (lwo : Int32) : Option (Int32 × (Nat → Int32) × Int32 × Int32) := if x2 < x6 then (some (x5, rf, lst, lwo)) else (M_least_L111 rc98 FU x2 x3 x4 (-1 : Int32) x6 (7 : Int32) w rf lst lwo)
set_option maxHeartbeats 4000000 in
set_option maxRecDepth 100000 in
theorem bM_least_98 {Am : Nat → Nat} {w : Nat → Int32} {kp : Nat → Int32} {tx : Nat → Int32} {td : Int32} {rf : Nat → Int32} {fa : Int64} {fb : Int64} {ap : Int32} {sp : Int32} {iw : Int32} {ig : Int32} {nu : Nat → Int32} {lst : Int32} {lwo : Int32} {hh : Int64} {rf_z : Nat → Int32} {lst_z : Int32} {lwo_z : Int32} {r0 : Int32} {x2 : Int32} {x3 : Int32} {x4 : Int32} {x5 : Int32} {x6 : Int32} {rc98 : Int32 → Int32 → Int32 → Int32 → Int32 → (Nat → Int32) → (Nat → Int32) → Int32 → Int32 → Option (Int32 × (Nat → Int32) × Int32 × Int32)} (X : Cx Γ p s m args meth c RX12 cX12_least 8 (some .int) w0) (h98 : ∀ (x2 : Int32) (x3 : Int32) (x4 : Int32) (x5 : Int32) (x6 : Int32) (w : Nat → Int32) (rf : Nat → Int32) (lst : Int32) (lwo : Int32), rc98 x2 x3 x4 x5 x6 w rf lst lwo = some (r0, rf_z, lst_z, lwo_z) → ∀ (H : Heap) (locs : List Loc) (ls : Array Slot), Wd Γ w0 s (WM Γ Am w kp tx td rf fa fb ap sp iw ig nu lst lwo hh) H locs → lv_has ls 8 [(0, .ref (Am 0)), (2, .int x2), (3, .int x3), (4, .int x4), (5, .int x5), (6, .int x6)] → W p l e rmM_least s m args below meth c H locs 0 0 (EI Γ below args s w0 (WM Γ Am w kp tx td rf_z fa fb ap sp iw ig nu lst_z lwo_z hh) r0) (F0 m 98 ls [])) (hf : M_least_98 rc98 x2 x3 x4 x5 x6 w rf lst lwo = some (r0, rf_z, lst_z, lwo_z)) (Y : Wd Γ w0 s (WM Γ Am w kp tx td rf fa fb ap sp iw ig nu lst lwo hh) H locs) (hl : lv_has ls 8 [(0, .ref (Am 0)), (2, .int x2), (3, .int x3), (4, .int x4), (5, .int x5), (6, .int x6)]) : W p l e rmM_least s m args below meth c H locs 0 0 (EI Γ below args s w0 (WM Γ Am w kp tx td rf_z fa fb ap sp iw ig nu lst_z lwo_z hh) r0) (F0 m 98 ls []) := by
  have hx := X.1
  have hb := X.2.1
  refine lv_iload hx hb dX12_least_98 (lv_at hl 5 rfl) ?_
  refine lv_iload_n hx hb dX12_least_100 rfl (lv_at hl 1 rfl) ?_
  refine lv_icmp_gt (tgt := 180) hx hb dX12_least_101 (by decide) (fun c_1 => ?_) (fun c_1 => ?_)
  · have hf := ite_t hf c_1
    refine lv_iload hx hb dX12_least_180 (lv_at hl 4 rfl) ?_
    obtain ⟨e90, e91, e92, e93⟩ := sj4 hf
    subst e90
    subst e91
    subst e92
    subst e93
    exact x_iret X Y dX12_least_182
  · have hf := ite_f hf c_1
    refine lv_iconst (v := (-1 : Int32)) hx hb dX12_least_104 (by decide) ?_
    refine lv_istore (lv' := [(5, .int (-1 : Int32)), (0, .ref (Am 0)), (2, .int x2), (3, .int x3), (4, .int x4), (6, .int x6)]) hx hb dX12_least_105 hl (by decide) rfl (fun ls hl => ?_)
    refine lv_bipush (v := (7 : Int32)) hx hb dX12_least_107 (by decide) ?_
    refine lv_istore (lv' := [(7, .int (7 : Int32)), (5, .int (-1 : Int32)), (0, .ref (Am 0)), (2, .int x2), (3, .int x3), (4, .int x4), (6, .int x6)]) hx hb dX12_least_109 hl (by decide) rfl (fun ls hl => ?_)
    exact lM_least_111 X h98 _ _ _ _ _ _ _ _ _ _ _ hf _ _ _ Y (lv_sub hl [2, 3, 4, 5, 1, 6, 0] rfl)
def M_least_L98 : Nat → Int32 → Int32 → Int32 → Int32 → Int32 → (Nat → Int32) → (Nat → Int32) → Int32 → Int32 → Option (Int32 × (Nat → Int32) × Int32 × Int32)
  | 0, _, _, _, _, _, _, _, _, _ => none
  | n + 1, x2, x3, x4, x5, x6, w, rf, lst, lwo => M_least_98 (M_least_L98 n) x2 x3 x4 x5 x6 w rf lst lwo
theorem lM_least_98 {Am : Nat → Nat} {kp : Nat → Int32} {tx : Nat → Int32} {td : Int32} {fa : Int64} {fb : Int64} {ap : Int32} {sp : Int32} {iw : Int32} {ig : Int32} {nu : Nat → Int32} {hh : Int64} {rf_z : Nat → Int32} {lst_z : Int32} {lwo_z : Int32} {r0 : Int32} (X : Cx Γ p s m args meth c RX12 cX12_least 8 (some .int) w0) : ∀ (n : Nat) (x2 : Int32) (x3 : Int32) (x4 : Int32) (x5 : Int32) (x6 : Int32) (w : Nat → Int32) (rf : Nat → Int32) (lst : Int32) (lwo : Int32), M_least_L98 n x2 x3 x4 x5 x6 w rf lst lwo = some (r0, rf_z, lst_z, lwo_z) → ∀ (H : Heap) (locs : List Loc) (ls : Array Slot), Wd Γ w0 s (WM Γ Am w kp tx td rf fa fb ap sp iw ig nu lst lwo hh) H locs → lv_has ls 8 [(0, .ref (Am 0)), (2, .int x2), (3, .int x3), (4, .int x4), (5, .int x5), (6, .int x6)] → W p l e rmM_least s m args below meth c H locs 0 0 (EI Γ below args s w0 (WM Γ Am w kp tx td rf_z fa fb ap sp iw ig nu lst_z lwo_z hh) r0) (F0 m 98 ls []) := by
  intro n
  induction n with
  | zero => intro x2 x3 x4 x5 x6 w rf lst lwo hf; cases hf
  | succ n ih => intro x2 x3 x4 x5 x6 w rf lst lwo hf H locs ls Y hl; exact bM_least_98 X ih hf Y hl
def M_least (x1 : Int32) (x2 : Int32) (w : Nat → Int32) (rf : Nat → Int32) (lst : Int32) (lwo : Int32) : Option (Int32 × (Nat → Int32) × Int32 × Int32) := bd1 (M_isStorm x1) (fun (r_1 : Int32) => if r_1 = 0 then (M_least_13 w rf lst lwo) else (if (-2 : Int32) ≤ x2 then (bd2 (M_findLeast (w 5) x1 (-1 : Int32) (0 : Int32) w lst lwo) (fun (lst_4 : Int32) (lwo_5 : Int32) => if lst_4 = (-1 : Int32) then (some ((-1 : Int32), rf, lst_4, lwo_5)) else (if 0 ≤ x2 then (bd1 (M_ones lst_4) (fun (r_8 : Int32) => if x2 < r_8 then (bnd (w 5) (fun (x3_10 : Int32) => M_least_L98 FU x2 x3_10 lst_4 (-1 : Int32) (0 : Int32) w rf lst_4 lwo_5)) else (some ((-5 : Int32), rf, lst_4, lwo_5)))) else (if x2 = (-2 : Int32) then (some (lst_4, rf, lst_4, lwo_5)) else (some (lwo_5, rf, lst_4, lwo_5)))))) else (M_least_13 w rf lst lwo)))
set_option maxHeartbeats 4000000 in
set_option maxRecDepth 100000 in
theorem bM_least_e {Am : Nat → Nat} {w : Nat → Int32} {kp : Nat → Int32} {tx : Nat → Int32} {td : Int32} {rf : Nat → Int32} {fa : Int64} {fb : Int64} {ap : Int32} {sp : Int32} {iw : Int32} {ig : Int32} {nu : Nat → Int32} {lst : Int32} {lwo : Int32} {hh : Int64} {rf_z : Nat → Int32} {lst_z : Int32} {lwo_z : Int32} {r0 : Int32} {x1 : Int32} {x2 : Int32} (X : Cx Γ p s m args meth c RX12 cX12_least 8 (some .int) w0) (hf : M_least x1 x2 w rf lst lwo = some (r0, rf_z, lst_z, lwo_z)) (Y : Wd Γ w0 s (WM Γ Am w kp tx td rf fa fb ap sp iw ig nu lst lwo hh) H locs) (hl : lv_has ls 8 [(0, .ref (Am 0)), (1, .int x1), (2, .int x2)]) : W p l e rmM_least s m args below meth c H locs 0 0 (EI Γ below args s w0 (WM Γ Am w kp tx td rf_z fa fb ap sp iw ig nu lst_z lwo_z hh) r0) (F0 m 0 ls []) := by
  have hx := X.1
  have hb := X.2.1
  refine lv_iload_n hx hb dX12_least_0 rfl (lv_at hl 1 rfl) ?_
  obtain ⟨r_1, ho_14, hf⟩ := bd1_some hf
  refine t_i Y (bk0 Y) (r_S (As := [.int x1]) (rest := []) X (c_pre0 X Y) (cM_isStorm ho_14) (cwX12_163 X (by decide)) rfl hl.1 (Nat.le_of_ble_eq_true rfl) rfl dX12_least_1 ⟨Nat.zero_le _, Nat.zero_le _⟩) (fun H locs Y => ?_)
  refine lv_if_eq (tgt := 13) hx hb dX12_least_4 (by decide) (fun c_2 => ?_) (fun c_2 => ?_)
  · have hf := ite_t hf c_2
    exact bM_least_13 X hf Y (lv_sub hl [0] rfl)
  · have hf := ite_f hf c_2
    refine lv_iload_n hx hb dX12_least_7 rfl (lv_at hl 2 rfl) ?_
    refine lv_bipush (v := (-2 : Int32)) hx hb dX12_least_8 (by decide) ?_
    refine lv_icmp_ge (tgt := 20) hx hb dX12_least_10 (by decide) (fun c_3 => ?_) (fun c_3 => ?_)
    · have hf := ite_t hf c_3
      refine lv_aload_n hx hb dX12_least_20 rfl (lv_at hl 0 rfl) ?_
      refine lv_aload_n hx hb dX12_least_21 rfl (lv_at hl 0 rfl) ?_
      refine gfX12_7 X Y (v := .ref (Am 1)) 0 rfl rfl dX12_least_22 ?_
      refine lv_iconst (v := (5 : Int32)) hx hb dX12_least_25 (by decide) ?_
      refine x_iald X Y 1 rfl (j := 5) rfl rfl dX12_least_26 ?_
      refine lv_iload_n hx hb dX12_least_27 rfl (lv_at hl 1 rfl) ?_
      refine lv_iconst (v := (-1 : Int32)) hx hb dX12_least_28 (by decide) ?_
      refine lv_iconst (v := (0 : Int32)) hx hb dX12_least_29 (by decide) ?_
      obtain ⟨lst_4, lwo_5, ho_13, hf⟩ := bd2_some hf
      refine t_v Y (bkS Y) (r_V (As := [.int (w 5), .int x1, .int (-1 : Int32), .int (0 : Int32)]) (rest := []) X (c_preS X Y) (cM_findLeast ho_13) (cwX12_208 X (by decide)) (va_recv X.K Y.1 (q := (RX12, TX12, 15)) (q0 := 0) (ci := 12) rfl rfl) rfl hl.1 (Nat.le_of_ble_eq_true rfl) rfl dX12_least_30 ⟨Nat.zero_le _, Nat.zero_le _⟩) (fun H locs Y => ?_)
      refine lv_aload_n hx hb dX12_least_33 rfl (lv_at hl 0 rfl) ?_
      refine gfX12_194 X Y (v := .int lst_4) 0 rfl rfl dX12_least_34 ?_
      refine lv_iconst (v := (-1 : Int32)) hx hb dX12_least_37 (by decide) ?_
      refine lv_icmp_ne (tgt := 43) hx hb dX12_least_38 (by decide) (fun c_6 => ?_) (fun c_6 => ?_)
      · have hf := ite_f hf c_6
        refine lv_iload_n hx hb dX12_least_43 rfl (lv_at hl 2 rfl) ?_
        refine lv_if_ge (tgt := 65) hx hb dX12_least_44 (by decide) (fun c_7 => ?_) (fun c_7 => ?_)
        · have hf := ite_t hf c_7
          refine lv_iload_n hx hb dX12_least_65 rfl (lv_at hl 2 rfl) ?_
          refine lv_aload_n hx hb dX12_least_66 rfl (lv_at hl 0 rfl) ?_
          refine gfX12_194 X Y (v := .int lst_4) 0 rfl rfl dX12_least_67 ?_
          obtain ⟨r_8, ho_11, hf⟩ := bd1_some hf
          refine t_i Y (bk0 Y) (r_S (As := [.int lst_4]) (rest := [.int x2]) X (c_pre0 X Y) (cM_ones ho_11) (cwX12_155 X (by decide)) rfl hl.1 (Nat.le_of_ble_eq_true rfl) rfl dX12_least_70 ⟨Nat.zero_le _, Nat.zero_le _⟩) (fun H locs Y => ?_)
          refine lv_icmp_lt (tgt := 79) hx hb dX12_least_73 (by decide) (fun c_9 => ?_) (fun c_9 => ?_)
          · have hf := ite_t hf c_9
            refine lv_aload_n hx hb dX12_least_79 rfl (lv_at hl 0 rfl) ?_
            refine gfX12_7 X Y (v := .ref (Am 1)) 0 rfl rfl dX12_least_80 ?_
            refine lv_iconst (v := (5 : Int32)) hx hb dX12_least_83 (by decide) ?_
            refine x_iald X Y 1 rfl (j := 5) rfl rfl dX12_least_84 ?_
            refine lv_topi (fun x3_10 e_x3_10 => ?_)
            have hf := bnd_eq hf e_x3_10
            refine lv_istore_n (lv' := [(3, .int x3_10), (0, .ref (Am 0)), (1, .int x1), (2, .int x2)]) hx hb dX12_least_85 rfl hl (by decide) rfl (fun ls hl => ?_)
            refine lv_aload_n hx hb dX12_least_86 rfl (lv_at hl 1 rfl) ?_
            refine gfX12_194 X Y (v := .int lst_4) 0 rfl rfl dX12_least_87 ?_
            refine lv_istore (lv' := [(4, .int lst_4), (3, .int x3_10), (0, .ref (Am 0)), (1, .int x1), (2, .int x2)]) hx hb dX12_least_90 hl (by decide) rfl (fun ls hl => ?_)
            refine lv_iconst (v := (-1 : Int32)) hx hb dX12_least_92 (by decide) ?_
            refine lv_istore (lv' := [(5, .int (-1 : Int32)), (4, .int lst_4), (3, .int x3_10), (0, .ref (Am 0)), (1, .int x1), (2, .int x2)]) hx hb dX12_least_93 hl (by decide) rfl (fun ls hl => ?_)
            refine lv_iconst (v := (0 : Int32)) hx hb dX12_least_95 (by decide) ?_
            refine lv_istore (lv' := [(6, .int (0 : Int32)), (5, .int (-1 : Int32)), (4, .int lst_4), (3, .int x3_10), (0, .ref (Am 0)), (1, .int x1), (2, .int x2)]) hx hb dX12_least_96 hl (by decide) rfl (fun ls hl => ?_)
            exact lM_least_98 X _ _ _ _ _ _ _ _ _ _ hf _ _ _ Y (lv_sub hl [4, 6, 3, 2, 1, 0] rfl)
          · have hf := ite_f hf c_9
            refine lv_bipush (v := (-5 : Int32)) hx hb dX12_least_76 (by decide) ?_
            obtain ⟨e90, e91, e92, e93⟩ := sj4 hf
            subst e90
            subst e91
            subst e92
            subst e93
            exact x_iret X Y dX12_least_78
        · have hf := ite_f hf c_7
          refine lv_iload_n hx hb dX12_least_47 rfl (lv_at hl 2 rfl) ?_
          refine lv_bipush (v := (-2 : Int32)) hx hb dX12_least_48 (by decide) ?_
          refine lv_icmp_ne (tgt := 60) hx hb dX12_least_50 (by decide) (fun c_12 => ?_) (fun c_12 => ?_)
          · have hf := ite_f hf c_12
            refine lv_aload_n hx hb dX12_least_60 rfl (lv_at hl 0 rfl) ?_
            refine gfX12_198 X Y (v := .int lwo_5) 0 rfl rfl dX12_least_61 ?_
            obtain ⟨e90, e91, e92, e93⟩ := sj4 hf
            subst e90
            subst e91
            subst e92
            subst e93
            exact x_iret X Y dX12_least_64
          · have hf := ite_t hf c_12
            refine lv_aload_n hx hb dX12_least_53 rfl (lv_at hl 0 rfl) ?_
            refine gfX12_194 X Y (v := .int lst_4) 0 rfl rfl dX12_least_54 ?_
            refine lv_goto (tgt := 64) hx hb dX12_least_57 (by decide) ?_
            obtain ⟨e90, e91, e92, e93⟩ := sj4 hf
            subst e90
            subst e91
            subst e92
            subst e93
            exact x_iret X Y dX12_least_64
      · have hf := ite_t hf c_6
        refine lv_iconst (v := (-1 : Int32)) hx hb dX12_least_41 (by decide) ?_
        obtain ⟨e90, e91, e92, e93⟩ := sj4 hf
        subst e90
        subst e91
        subst e92
        subst e93
        exact x_iret X Y dX12_least_42
    · have hf := ite_f hf c_3
      exact bM_least_13 X hf Y (lv_sub hl [0] rfl)
theorem cM_least {l : Launch} {Γ : Gm} {Am : Nat → Nat} {w : Nat → Int32} {kp : Nat → Int32} {tx : Nat → Int32} {td : Int32} {rf : Nat → Int32} {fa : Int64} {fb : Int64} {ap : Int32} {sp : Int32} {iw : Int32} {ig : Int32} {nu : Nat → Int32} {lst : Int32} {lwo : Int32} {hh : Int64} {rf_z : Nat → Int32} {lst_z : Int32} {lwo_z : Int32} {r0 : Int32} {x1 : Int32} {x2 : Int32} (h : M_least x1 x2 w rf lst lwo = some (r0, rf_z, lst_z, lwo_z)) : CI l Γ yX12_least (Cond.code yX12_least cX12_least 8 (some .int) :: GW) rmM_least [.ref (Am 0), .int x1, .int x2] (WM Γ Am w kp tx td rf fa fb ap sp iw ig nu lst lwo hh) (WM Γ Am w kp tx td rf_z fa fb ap sp iw ig nu lst_z lwo_z hh) r0 := ofBody (Qc := QcI Γ _ _ r0) (by decide) (Nat.le_of_ble_eq_true rfl) (fun p e s m below meth c ls _ X Y hl => bM_least_e X h Y hl)
def rmM_thrownSet : Room := { frames := 0, cells := 0, slots := 0, locals := 0 }
def M_thrownSet (w : Nat → Int32) : Option (Int32) := some ((((1 : Int32) <<< ((w 0) &&& 31)) - (1 : Int32)) &&& ((w 5) ^^^ (-1 : Int32)))
set_option maxHeartbeats 4000000 in
set_option maxRecDepth 100000 in
theorem bM_thrownSet_e {Am : Nat → Nat} {w : Nat → Int32} {kp : Nat → Int32} {tx : Nat → Int32} {td : Int32} {rf : Nat → Int32} {fa : Int64} {fb : Int64} {ap : Int32} {sp : Int32} {iw : Int32} {ig : Int32} {nu : Nat → Int32} {lst : Int32} {lwo : Int32} {hh : Int64} {r0 : Int32} (X : Cx Γ p s m args meth c RX12 cX12_thrownSet 1 (some .int) w0) (hf : M_thrownSet w = some r0) (Y : Wd Γ w0 s (WM Γ Am w kp tx td rf fa fb ap sp iw ig nu lst lwo hh) H locs) (hl : lv_has ls 1 [(0, .ref (Am 0))]) : W p l e rmM_thrownSet s m args below meth c H locs 0 0 (EI Γ below args s w0 (WM Γ Am w kp tx td rf fa fb ap sp iw ig nu lst lwo hh) r0) (F0 m 0 ls []) := by
  have hx := X.1
  have hb := X.2.1
  refine lv_iconst (v := (1 : Int32)) hx hb dX12_thrownSet_0 (by decide) ?_
  refine lv_aload_n hx hb dX12_thrownSet_1 rfl (lv_at hl 0 rfl) ?_
  refine gfX12_7 X Y (v := .ref (Am 1)) 0 rfl rfl dX12_thrownSet_2 ?_
  refine lv_iconst (v := (0 : Int32)) hx hb dX12_thrownSet_5 (by decide) ?_
  refine x_iald X Y 1 rfl (j := 0) rfl rfl dX12_thrownSet_6 ?_
  refine lv_ishl hx hb dX12_thrownSet_7 ?_
  refine lv_iconst (v := (1 : Int32)) hx hb dX12_thrownSet_8 (by decide) ?_
  refine lv_isub hx hb dX12_thrownSet_9 ?_
  refine lv_aload_n hx hb dX12_thrownSet_10 rfl (lv_at hl 0 rfl) ?_
  refine gfX12_7 X Y (v := .ref (Am 1)) 0 rfl rfl dX12_thrownSet_11 ?_
  refine lv_iconst (v := (5 : Int32)) hx hb dX12_thrownSet_14 (by decide) ?_
  refine x_iald X Y 1 rfl (j := 5) rfl rfl dX12_thrownSet_15 ?_
  refine lv_iconst (v := (-1 : Int32)) hx hb dX12_thrownSet_16 (by decide) ?_
  refine lv_ixor hx hb dX12_thrownSet_17 ?_
  refine lv_iand hx hb dX12_thrownSet_18 ?_
  have e90 := Option.some.inj hf
  subst e90
  exact x_iret X Y dX12_thrownSet_19
theorem cM_thrownSet {l : Launch} {Γ : Gm} {Am : Nat → Nat} {w : Nat → Int32} {kp : Nat → Int32} {tx : Nat → Int32} {td : Int32} {rf : Nat → Int32} {fa : Int64} {fb : Int64} {ap : Int32} {sp : Int32} {iw : Int32} {ig : Int32} {nu : Nat → Int32} {lst : Int32} {lwo : Int32} {hh : Int64} {r0 : Int32} (h : M_thrownSet w = some r0) : CI l Γ yX12_thrownSet (Cond.code yX12_thrownSet cX12_thrownSet 1 (some .int) :: GW) rmM_thrownSet [.ref (Am 0)] (WM Γ Am w kp tx td rf fa fb ap sp iw ig nu lst lwo hh) (WM Γ Am w kp tx td rf fa fb ap sp iw ig nu lst lwo hh) r0 := ofBody (Qc := QcI Γ _ _ r0) (by decide) (Nat.le_of_ble_eq_true rfl) (fun p e s m below meth c ls _ X Y hl => bM_thrownSet_e X h Y hl)
theorem dmX12_thrownSetV : yX12_thrownSet.cls = RX12 ∧ yX12_thrownSet.cls ≠ "java/lang/invoke/MethodHandle" ∧ yX12_thrownSet.cls ≠ "java/lang/invoke/VarHandle" ∧ (parseMethodDescriptor yX12_thrownSet.desc).map (fun d => d.parameters.length) = some 0 := by decide +kernel
theorem cwX12_212 (X : Cx Γ p s m args meth c RX12 cc nL ret w0) (hR : rmM_thrownSet.frames + 1 ≤ R.frames ∧ 8 + (1 + 11) + rmM_thrownSet.locals ≤ R.locals) : CallW R s args RX12 RX12 212 yX12_thrownSet cX12_thrownSet 1 (some .int) (Cond.code yX12_thrownSet cX12_thrownSet 1 (some .int) :: GW) rmM_thrownSet 0 0 0 := cw_V X kw170 kw171 kw172 kw4 kw173 dmX12_thrownSetV rfl rfl hR
def rmM_needful : Room := { frames := 3, cells := 0, slots := 0, locals := 66 }
def M_needful_16 (rc16 : Int32 → Int32 → Int32 → (Nat → Int32) → (Nat → Int32) → Option (Int32 × (Nat → Int32))) (x1 : Int32) (x2 : Int32) (x3 : Int32) (w : Nat → Int32) (rf : Nat → Int32) : Option (Int32 × (Nat → Int32)) := if (w 0) ≤ x3 then (some (x2, rf)) else (bd1 (M_thrownSet w) (fun (r_2 : Int32) => bd1 (M_has r_2 x3) (fun (r_3 : Int32) => if r_3 = 0 then (bnd (x2 ||| (0 : Int32)) (fun (x2_5 : Int32) => bnd (x3 + (1 : Int32)) (fun (x3_6 : Int32) => rc16 x1 x2_5 x3_6 w rf))) else (bd1 (M_isAlive ((w 5) ||| ((1 : Int32) <<< (x3 &&& 31))) x1 w) (fun (r_7 : Int32) => if r_7 = 0 then (bnd (x2 ||| ((1 : Int32) <<< (x3 &&& 31))) (fun (x2_11 : Int32) => bnd (x3 + (1 : Int32)) (fun (x3_12 : Int32) => rc16 x1 x2_11 x3_12 w rf))) else (bnd (x2 ||| (0 : Int32)) (fun (x2_9 : Int32) => bnd (x3 + (1 : Int32)) (fun (x3_10 : Int32) => rc16 x1 x2_9 x3_10 w rf))))))))
set_option maxHeartbeats 4000000 in
set_option maxRecDepth 100000 in
theorem bM_needful_16 {Am : Nat → Nat} {w : Nat → Int32} {kp : Nat → Int32} {tx : Nat → Int32} {td : Int32} {rf : Nat → Int32} {fa : Int64} {fb : Int64} {ap : Int32} {sp : Int32} {iw : Int32} {ig : Int32} {nu : Nat → Int32} {lst : Int32} {lwo : Int32} {hh : Int64} {rf_z : Nat → Int32} {r0 : Int32} {x1 : Int32} {x2 : Int32} {x3 : Int32} {rc16 : Int32 → Int32 → Int32 → (Nat → Int32) → (Nat → Int32) → Option (Int32 × (Nat → Int32))} (X : Cx Γ p s m args meth c RX12 cX12_needful 4 (some .int) w0) (h16 : ∀ (x1 : Int32) (x2 : Int32) (x3 : Int32) (w : Nat → Int32) (rf : Nat → Int32), rc16 x1 x2 x3 w rf = some (r0, rf_z) → ∀ (H : Heap) (locs : List Loc) (ls : Array Slot), Wd Γ w0 s (WM Γ Am w kp tx td rf fa fb ap sp iw ig nu lst lwo hh) H locs → lv_has ls 4 [(0, .ref (Am 0)), (1, .int x1), (2, .int x2), (3, .int x3)] → W p l e rmM_needful s m args below meth c H locs 0 0 (EI Γ below args s w0 (WM Γ Am w kp tx td rf_z fa fb ap sp iw ig nu lst lwo hh) r0) (F0 m 16 ls [])) (hf : M_needful_16 rc16 x1 x2 x3 w rf = some (r0, rf_z)) (Y : Wd Γ w0 s (WM Γ Am w kp tx td rf fa fb ap sp iw ig nu lst lwo hh) H locs) (hl : lv_has ls 4 [(0, .ref (Am 0)), (1, .int x1), (2, .int x2), (3, .int x3)]) : W p l e rmM_needful s m args below meth c H locs 0 0 (EI Γ below args s w0 (WM Γ Am w kp tx td rf_z fa fb ap sp iw ig nu lst lwo hh) r0) (F0 m 16 ls []) := by
  have hx := X.1
  have hb := X.2.1
  refine lv_iload_n hx hb dX12_needful_16 rfl (lv_at hl 3 rfl) ?_
  refine lv_aload_n hx hb dX12_needful_17 rfl (lv_at hl 0 rfl) ?_
  refine gfX12_7 X Y (v := .ref (Am 1)) 0 rfl rfl dX12_needful_18 ?_
  refine lv_iconst (v := (0 : Int32)) hx hb dX12_needful_21 (by decide) ?_
  refine x_iald X Y 1 rfl (j := 0) rfl rfl dX12_needful_22 ?_
  refine lv_icmp_ge (tgt := 71) hx hb dX12_needful_23 (by decide) (fun c_1 => ?_) (fun c_1 => ?_)
  · have hf := ite_t hf c_1
    refine lv_iload_n hx hb dX12_needful_71 rfl (lv_at hl 2 rfl) ?_
    obtain ⟨e90, e91⟩ := sj2 hf
    subst e90
    subst e91
    exact x_iret X Y dX12_needful_72
  · have hf := ite_f hf c_1
    refine lv_iload_n hx hb dX12_needful_26 rfl (lv_at hl 2 rfl) ?_
    refine lv_aload_n hx hb dX12_needful_27 rfl (lv_at hl 0 rfl) ?_
    obtain ⟨r_2, ho_15, hf⟩ := bd1_some hf
    refine t_i Y (bkS Y) (r_V (As := []) (rest := [.int x2]) X (c_preS X Y) (cM_thrownSet ho_15) (cwX12_212 X (by decide)) (va_recv X.K Y.1 (q := (RX12, TX12, 15)) (q0 := 0) (ci := 12) rfl rfl) rfl hl.1 (Nat.le_of_ble_eq_true rfl) rfl dX12_needful_28 ⟨Nat.zero_le _, Nat.zero_le _⟩) (fun H locs Y => ?_)
    refine lv_iload_n hx hb dX12_needful_31 rfl (lv_at hl 3 rfl) ?_
    obtain ⟨r_3, ho_14, hf⟩ := bd1_some hf
    refine t_i Y (bk0 Y) (r_S (As := [.int r_2, .int x3]) (rest := [.int x2]) X (c_pre0 X Y) (cM_has ho_14) (cwX12_70 X (by decide)) rfl hl.1 (Nat.le_of_ble_eq_true rfl) rfl dX12_needful_32 ⟨Nat.zero_le _, Nat.zero_le _⟩) (fun H locs Y => ?_)
    refine lv_if_eq (tgt := 62) hx hb dX12_needful_35 (by decide) (fun c_4 => ?_) (fun c_4 => ?_)
    · have hf := ite_t hf c_4
      refine lv_iconst (v := (0 : Int32)) hx hb dX12_needful_62 (by decide) ?_
      refine lv_ior hx hb dX12_needful_63 ?_
      refine lv_topi (fun x2_5 e_x2_5 => ?_)
      have hf := bnd_eq hf e_x2_5
      refine lv_istore_n (lv' := [(2, .int x2_5), (0, .ref (Am 0)), (1, .int x1), (3, .int x3)]) hx hb dX12_needful_64 rfl hl (by decide) rfl (fun ls hl => ?_)
      obtain ⟨x3_6, e_x3_6⟩ : ∃ z : Int32, z = (x3 + (1 : Int32)) := ⟨_, rfl⟩
      have hf := bnd_eq hf e_x3_6
      refine lv_iinc (v := x3_6) (lv' := [(3, .int x3_6), (2, .int x2_5), (0, .ref (Am 0)), (1, .int x1)]) hx hb dX12_needful_65 hl (k := 3) rfl (by rw [e_x3_6]; rfl) (by decide) rfl (fun ls hl => ?_)
      refine lv_goto (tgt := 16) hx hb dX12_needful_68 (by decide) ?_
      exact h16 _ _ _ _ _ hf _ _ _ Y (lv_sub hl [2, 3, 1, 0] rfl)
    · have hf := ite_f hf c_4
      refine lv_aload_n hx hb dX12_needful_38 rfl (lv_at hl 0 rfl) ?_
      refine lv_aload_n hx hb dX12_needful_39 rfl (lv_at hl 0 rfl) ?_
      refine gfX12_7 X Y (v := .ref (Am 1)) 0 rfl rfl dX12_needful_40 ?_
      refine lv_iconst (v := (5 : Int32)) hx hb dX12_needful_43 (by decide) ?_
      refine x_iald X Y 1 rfl (j := 5) rfl rfl dX12_needful_44 ?_
      refine lv_iconst (v := (1 : Int32)) hx hb dX12_needful_45 (by decide) ?_
      refine lv_iload_n hx hb dX12_needful_46 rfl (lv_at hl 3 rfl) ?_
      refine lv_ishl hx hb dX12_needful_47 ?_
      refine lv_ior hx hb dX12_needful_48 ?_
      refine lv_iload_n hx hb dX12_needful_49 rfl (lv_at hl 1 rfl) ?_
      obtain ⟨r_7, ho_13, hf⟩ := bd1_some hf
      refine t_i Y (bkS Y) (r_V (As := [.int ((w 5) ||| ((1 : Int32) <<< (x3 &&& 31))), .int x1]) (rest := [.int x2]) X (c_preS X Y) (cM_isAlive ho_13) (cwX12_166 X (by decide)) (va_recv X.K Y.1 (q := (RX12, TX12, 15)) (q0 := 0) (ci := 12) rfl rfl) rfl hl.1 (Nat.le_of_ble_eq_true rfl) rfl dX12_needful_50 ⟨Nat.zero_le _, Nat.zero_le _⟩) (fun H locs Y => ?_)
      refine lv_if_ne (tgt := 62) hx hb dX12_needful_53 (by decide) (fun c_8 => ?_) (fun c_8 => ?_)
      · have hf := ite_f hf c_8
        refine lv_iconst (v := (0 : Int32)) hx hb dX12_needful_62 (by decide) ?_
        refine lv_ior hx hb dX12_needful_63 ?_
        refine lv_topi (fun x2_9 e_x2_9 => ?_)
        have hf := bnd_eq hf e_x2_9
        refine lv_istore_n (lv' := [(2, .int x2_9), (0, .ref (Am 0)), (1, .int x1), (3, .int x3)]) hx hb dX12_needful_64 rfl hl (by decide) rfl (fun ls hl => ?_)
        obtain ⟨x3_10, e_x3_10⟩ : ∃ z : Int32, z = (x3 + (1 : Int32)) := ⟨_, rfl⟩
        have hf := bnd_eq hf e_x3_10
        refine lv_iinc (v := x3_10) (lv' := [(3, .int x3_10), (2, .int x2_9), (0, .ref (Am 0)), (1, .int x1)]) hx hb dX12_needful_65 hl (k := 3) rfl (by rw [e_x3_10]; rfl) (by decide) rfl (fun ls hl => ?_)
        refine lv_goto (tgt := 16) hx hb dX12_needful_68 (by decide) ?_
        exact h16 _ _ _ _ _ hf _ _ _ Y (lv_sub hl [2, 3, 1, 0] rfl)
      · have hf := ite_t hf c_8
        refine lv_iconst (v := (1 : Int32)) hx hb dX12_needful_56 (by decide) ?_
        refine lv_iload_n hx hb dX12_needful_57 rfl (lv_at hl 3 rfl) ?_
        refine lv_ishl hx hb dX12_needful_58 ?_
        refine lv_goto (tgt := 63) hx hb dX12_needful_59 (by decide) ?_
        refine lv_ior hx hb dX12_needful_63 ?_
        refine lv_topi (fun x2_11 e_x2_11 => ?_)
        have hf := bnd_eq hf e_x2_11
        refine lv_istore_n (lv' := [(2, .int x2_11), (0, .ref (Am 0)), (1, .int x1), (3, .int x3)]) hx hb dX12_needful_64 rfl hl (by decide) rfl (fun ls hl => ?_)
        obtain ⟨x3_12, e_x3_12⟩ : ∃ z : Int32, z = (x3 + (1 : Int32)) := ⟨_, rfl⟩
        have hf := bnd_eq hf e_x3_12
        refine lv_iinc (v := x3_12) (lv' := [(3, .int x3_12), (2, .int x2_11), (0, .ref (Am 0)), (1, .int x1)]) hx hb dX12_needful_65 hl (k := 3) rfl (by rw [e_x3_12]; rfl) (by decide) rfl (fun ls hl => ?_)
        refine lv_goto (tgt := 16) hx hb dX12_needful_68 (by decide) ?_
        exact h16 _ _ _ _ _ hf _ _ _ Y (lv_sub hl [2, 3, 1, 0] rfl)
def M_needful_L16 : Nat → Int32 → Int32 → Int32 → (Nat → Int32) → (Nat → Int32) → Option (Int32 × (Nat → Int32))
  | 0, _, _, _, _, _ => none
  | n + 1, x1, x2, x3, w, rf => M_needful_16 (M_needful_L16 n) x1 x2 x3 w rf
theorem lM_needful_16 {Am : Nat → Nat} {kp : Nat → Int32} {tx : Nat → Int32} {td : Int32} {fa : Int64} {fb : Int64} {ap : Int32} {sp : Int32} {iw : Int32} {ig : Int32} {nu : Nat → Int32} {lst : Int32} {lwo : Int32} {hh : Int64} {rf_z : Nat → Int32} {r0 : Int32} (X : Cx Γ p s m args meth c RX12 cX12_needful 4 (some .int) w0) : ∀ (n : Nat) (x1 : Int32) (x2 : Int32) (x3 : Int32) (w : Nat → Int32) (rf : Nat → Int32), M_needful_L16 n x1 x2 x3 w rf = some (r0, rf_z) → ∀ (H : Heap) (locs : List Loc) (ls : Array Slot), Wd Γ w0 s (WM Γ Am w kp tx td rf fa fb ap sp iw ig nu lst lwo hh) H locs → lv_has ls 4 [(0, .ref (Am 0)), (1, .int x1), (2, .int x2), (3, .int x3)] → W p l e rmM_needful s m args below meth c H locs 0 0 (EI Γ below args s w0 (WM Γ Am w kp tx td rf_z fa fb ap sp iw ig nu lst lwo hh) r0) (F0 m 16 ls []) := by
  intro n
  induction n with
  | zero => intro x1 x2 x3 w rf hf; cases hf
  | succ n ih => intro x1 x2 x3 w rf hf H locs ls Y hl; exact bM_needful_16 X ih hf Y hl
def M_needful (x1 : Int32) (w : Nat → Int32) (rf : Nat → Int32) : Option (Int32 × (Nat → Int32)) := bd1 (M_isStorm x1) (fun (r_1 : Int32) => if r_1 = 0 then (bd2 (M_bad rf) (fun (r_3 : Int32) (rf_4 : Nat → Int32) => some (r_3, rf_4))) else (M_needful_L16 FU x1 (0 : Int32) (0 : Int32) w rf))
set_option maxHeartbeats 4000000 in
set_option maxRecDepth 100000 in
theorem bM_needful_e {Am : Nat → Nat} {w : Nat → Int32} {kp : Nat → Int32} {tx : Nat → Int32} {td : Int32} {rf : Nat → Int32} {fa : Int64} {fb : Int64} {ap : Int32} {sp : Int32} {iw : Int32} {ig : Int32} {nu : Nat → Int32} {lst : Int32} {lwo : Int32} {hh : Int64} {rf_z : Nat → Int32} {r0 : Int32} {x1 : Int32} (X : Cx Γ p s m args meth c RX12 cX12_needful 4 (some .int) w0) (hf : M_needful x1 w rf = some (r0, rf_z)) (Y : Wd Γ w0 s (WM Γ Am w kp tx td rf fa fb ap sp iw ig nu lst lwo hh) H locs) (hl : lv_has ls 4 [(0, .ref (Am 0)), (1, .int x1)]) : W p l e rmM_needful s m args below meth c H locs 0 0 (EI Γ below args s w0 (WM Γ Am w kp tx td rf_z fa fb ap sp iw ig nu lst lwo hh) r0) (F0 m 0 ls []) := by
  have hx := X.1
  have hb := X.2.1
  refine lv_iload_n hx hb dX12_needful_0 rfl (lv_at hl 1 rfl) ?_
  obtain ⟨r_1, ho_6, hf⟩ := bd1_some hf
  refine t_i Y (bk0 Y) (r_S (As := [.int x1]) (rest := []) X (c_pre0 X Y) (cM_isStorm ho_6) (cwX12_163 X (by decide)) rfl hl.1 (Nat.le_of_ble_eq_true rfl) rfl dX12_needful_1 ⟨Nat.zero_le _, Nat.zero_le _⟩) (fun H locs Y => ?_)
  refine lv_if_ne (tgt := 12) hx hb dX12_needful_4 (by decide) (fun c_2 => ?_) (fun c_2 => ?_)
  · have hf := ite_f hf c_2
    refine lv_iconst (v := (0 : Int32)) hx hb dX12_needful_12 (by decide) ?_
    refine lv_istore_n (lv' := [(2, .int (0 : Int32)), (0, .ref (Am 0)), (1, .int x1)]) hx hb dX12_needful_13 rfl hl (by decide) rfl (fun ls hl => ?_)
    refine lv_iconst (v := (0 : Int32)) hx hb dX12_needful_14 (by decide) ?_
    refine lv_istore_n (lv' := [(3, .int (0 : Int32)), (2, .int (0 : Int32)), (0, .ref (Am 0)), (1, .int x1)]) hx hb dX12_needful_15 rfl hl (by decide) rfl (fun ls hl => ?_)
    exact lM_needful_16 X _ _ _ _ _ _ hf _ _ _ Y (lv_sub hl [2, 3, 1, 0] rfl)
  · have hf := ite_t hf c_2
    refine lv_aload_n hx hb dX12_needful_7 rfl (lv_at hl 0 rfl) ?_
    obtain ⟨r_3, rf_4, ho_5, hf⟩ := bd2_some hf
    refine t_i Y (bkS Y) (r_V (As := []) (rest := []) X (c_preS X Y) (cM_bad ho_5) (cwX12_44 X (by decide)) (va_recv X.K Y.1 (q := (RX12, TX12, 15)) (q0 := 0) (ci := 12) rfl rfl) rfl hl.1 (Nat.le_of_ble_eq_true rfl) rfl dX12_needful_8 ⟨Nat.zero_le _, Nat.zero_le _⟩) (fun H locs Y => ?_)
    obtain ⟨e90, e91⟩ := sj2 hf
    subst e90
    subst e91
    exact x_iret X Y dX12_needful_11
theorem cM_needful {l : Launch} {Γ : Gm} {Am : Nat → Nat} {w : Nat → Int32} {kp : Nat → Int32} {tx : Nat → Int32} {td : Int32} {rf : Nat → Int32} {fa : Int64} {fb : Int64} {ap : Int32} {sp : Int32} {iw : Int32} {ig : Int32} {nu : Nat → Int32} {lst : Int32} {lwo : Int32} {hh : Int64} {rf_z : Nat → Int32} {r0 : Int32} {x1 : Int32} (h : M_needful x1 w rf = some (r0, rf_z)) : CI l Γ yX12_needful (Cond.code yX12_needful cX12_needful 4 (some .int) :: GW) rmM_needful [.ref (Am 0), .int x1] (WM Γ Am w kp tx td rf fa fb ap sp iw ig nu lst lwo hh) (WM Γ Am w kp tx td rf_z fa fb ap sp iw ig nu lst lwo hh) r0 := ofBody (Qc := QcI Γ _ _ r0) (by decide) (Nat.le_of_ble_eq_true rfl) (fun p e s m below meth c ls _ X Y hl => bM_needful_e X h Y hl)
def rmM_stow : Room := { frames := 4, cells := 0, slots := 0, locals := 104 }
def M_stow_15 (w : Nat → Int32) (rf : Nat → Int32) (lst : Int32) (lwo : Int32) : Option (Int32 × (Nat → Int32) × Int32 × Int32) := bd2 (M_bad rf) (fun (r_1 : Int32) (rf_2 : Nat → Int32) => some (r_1, rf_2, lst, lwo))
set_option maxHeartbeats 4000000 in
set_option maxRecDepth 100000 in
theorem bM_stow_15 {Am : Nat → Nat} {w : Nat → Int32} {kp : Nat → Int32} {tx : Nat → Int32} {td : Int32} {rf : Nat → Int32} {fa : Int64} {fb : Int64} {ap : Int32} {sp : Int32} {iw : Int32} {ig : Int32} {nu : Nat → Int32} {lst : Int32} {lwo : Int32} {hh : Int64} {rf_z : Nat → Int32} {lst_z : Int32} {lwo_z : Int32} {r0 : Int32} (X : Cx Γ p s m args meth c RX12 cX12_stow 4 (some .int) w0) (hf : M_stow_15 w rf lst lwo = some (r0, rf_z, lst_z, lwo_z)) (Y : Wd Γ w0 s (WM Γ Am w kp tx td rf fa fb ap sp iw ig nu lst lwo hh) H locs) (hl : lv_has ls 4 [(0, .ref (Am 0))]) : W p l e rmM_stow s m args below meth c H locs 0 0 (EI Γ below args s w0 (WM Γ Am w kp tx td rf_z fa fb ap sp iw ig nu lst_z lwo_z hh) r0) (F0 m 15 ls []) := by
  have hx := X.1
  have hb := X.2.1
  refine lv_aload_n hx hb dX12_stow_15 rfl (lv_at hl 0 rfl) ?_
  obtain ⟨r_1, rf_2, ho_3, hf⟩ := bd2_some hf
  refine t_i Y (bkS Y) (r_V (As := []) (rest := []) X (c_preS X Y) (cM_bad ho_3) (cwX12_44 X (by decide)) (va_recv X.K Y.1 (q := (RX12, TX12, 15)) (q0 := 0) (ci := 12) rfl rfl) rfl hl.1 (Nat.le_of_ble_eq_true rfl) rfl dX12_stow_16 ⟨Nat.zero_le _, Nat.zero_le _⟩) (fun H locs Y => ?_)
  obtain ⟨e90, e91, e92, e93⟩ := sj4 hf
  subst e90
  subst e91
  subst e92
  subst e93
  exact x_iret X Y dX12_stow_19
def M_stow_63 (rc40 : Int32 → Int32 → Int32 → (Nat → Int32) → (Nat → Int32) → Int32 → Int32 → Option (Int32 × (Nat → Int32) × Int32 × Int32)) (x1 : Int32) (x2 : Int32) (x3 : Int32) (y0 : Int32) (y1 : Int32) (y2 : Int32) (w : Nat → Int32) (rf : Nat → Int32) (lst : Int32) (lwo : Int32) : Option (Int32 × (Nat → Int32) × Int32 × Int32) := bd2 (M_findLeast y2 y1 y0 x3 w lst lwo) (fun (lst_1 : Int32) (lwo_2 : Int32) => if lst_1 = (-1 : Int32) then (bnd (x3 + (1 : Int32)) (fun (x3_4 : Int32) => rc40 x1 x2 x3_4 w rf lst_1 lwo_2)) else (bd1 (M_has lst_1 x1) (fun (r_5 : Int32) => if r_5 = 0 then (some (x3, rf, lst_1, lwo_2)) else (bnd (x3 + (1 : Int32)) (fun (x3_7 : Int32) => rc40 x1 x2 x3_7 w rf lst_1 lwo_2)))))
set_option maxHeartbeats 4000000 in
set_option maxRecDepth 100000 in
theorem bM_stow_63 {Am : Nat → Nat} {w : Nat → Int32} {kp : Nat → Int32} {tx : Nat → Int32} {td : Int32} {rf : Nat → Int32} {fa : Int64} {fb : Int64} {ap : Int32} {sp : Int32} {iw : Int32} {ig : Int32} {nu : Nat → Int32} {lst : Int32} {lwo : Int32} {hh : Int64} {rf_z : Nat → Int32} {lst_z : Int32} {lwo_z : Int32} {r0 : Int32} {x1 : Int32} {x2 : Int32} {x3 : Int32} {y0 : Int32} {y1 : Int32} {y2 : Int32} {rc40 : Int32 → Int32 → Int32 → (Nat → Int32) → (Nat → Int32) → Int32 → Int32 → Option (Int32 × (Nat → Int32) × Int32 × Int32)} (X : Cx Γ p s m args meth c RX12 cX12_stow 4 (some .int) w0) (h40 : ∀ (x1 : Int32) (x2 : Int32) (x3 : Int32) (w : Nat → Int32) (rf : Nat → Int32) (lst : Int32) (lwo : Int32), rc40 x1 x2 x3 w rf lst lwo = some (r0, rf_z, lst_z, lwo_z) → ∀ (H : Heap) (locs : List Loc) (ls : Array Slot), Wd Γ w0 s (WM Γ Am w kp tx td rf fa fb ap sp iw ig nu lst lwo hh) H locs → lv_has ls 4 [(0, .ref (Am 0)), (1, .int x1), (2, .int x2), (3, .int x3)] → W p l e rmM_stow s m args below meth c H locs 0 0 (EI Γ below args s w0 (WM Γ Am w kp tx td rf_z fa fb ap sp iw ig nu lst_z lwo_z hh) r0) (F0 m 40 ls [])) (hf : M_stow_63 rc40 x1 x2 x3 y0 y1 y2 w rf lst lwo = some (r0, rf_z, lst_z, lwo_z)) (Y : Wd Γ w0 s (WM Γ Am w kp tx td rf fa fb ap sp iw ig nu lst lwo hh) H locs) (hl : lv_has ls 4 [(0, .ref (Am 0)), (1, .int x1), (2, .int x2), (3, .int x3)]) : W p l e rmM_stow s m args below meth c H locs 0 0 (EI Γ below args s w0 (WM Γ Am w kp tx td rf_z fa fb ap sp iw ig nu lst_z lwo_z hh) r0) (F0 m 63 ls [.int y0, .int y1, .int y2, .ref (Am 0)]) := by
  have hx := X.1
  have hb := X.2.1
  refine lv_iload_n hx hb dX12_stow_63 rfl (lv_at hl 3 rfl) ?_
  obtain ⟨lst_1, lwo_2, ho_9, hf⟩ := bd2_some hf
  refine t_v Y (bkS Y) (r_V (As := [.int y2, .int y1, .int y0, .int x3]) (rest := []) X (c_preS X Y) (cM_findLeast ho_9) (cwX12_208 X (by decide)) (va_recv X.K Y.1 (q := (RX12, TX12, 15)) (q0 := 0) (ci := 12) rfl rfl) rfl hl.1 (Nat.le_of_ble_eq_true rfl) rfl dX12_stow_64 ⟨Nat.zero_le _, Nat.zero_le _⟩) (fun H locs Y => ?_)
  refine lv_aload_n hx hb dX12_stow_67 rfl (lv_at hl 0 rfl) ?_
  refine gfX12_194 X Y (v := .int lst_1) 0 rfl rfl dX12_stow_68 ?_
  refine lv_iconst (v := (-1 : Int32)) hx hb dX12_stow_71 (by decide) ?_
  refine lv_icmp_eq (tgt := 88) hx hb dX12_stow_72 (by decide) (fun c_3 => ?_) (fun c_3 => ?_)
  · have hf := ite_t hf c_3
    obtain ⟨x3_4, e_x3_4⟩ : ∃ z : Int32, z = (x3 + (1 : Int32)) := ⟨_, rfl⟩
    have hf := bnd_eq hf e_x3_4
    refine lv_iinc (v := x3_4) (lv' := [(3, .int x3_4), (0, .ref (Am 0)), (1, .int x1), (2, .int x2)]) hx hb dX12_stow_88 hl (k := 3) rfl (by rw [e_x3_4]; rfl) (by decide) rfl (fun ls hl => ?_)
    refine lv_goto (tgt := 40) hx hb dX12_stow_91 (by decide) ?_
    exact h40 _ _ _ _ _ _ _ hf _ _ _ Y (lv_sub hl [1, 2, 3, 0] rfl)
  · have hf := ite_f hf c_3
    refine lv_aload_n hx hb dX12_stow_75 rfl (lv_at hl 0 rfl) ?_
    refine gfX12_194 X Y (v := .int lst_1) 0 rfl rfl dX12_stow_76 ?_
    refine lv_iload_n hx hb dX12_stow_79 rfl (lv_at hl 1 rfl) ?_
    obtain ⟨r_5, ho_8, hf⟩ := bd1_some hf
    refine t_i Y (bk0 Y) (r_S (As := [.int lst_1, .int x1]) (rest := []) X (c_pre0 X Y) (cM_has ho_8) (cwX12_70 X (by decide)) rfl hl.1 (Nat.le_of_ble_eq_true rfl) rfl dX12_stow_80 ⟨Nat.zero_le _, Nat.zero_le _⟩) (fun H locs Y => ?_)
    refine lv_if_ne (tgt := 88) hx hb dX12_stow_83 (by decide) (fun c_6 => ?_) (fun c_6 => ?_)
    · have hf := ite_f hf c_6
      obtain ⟨x3_7, e_x3_7⟩ : ∃ z : Int32, z = (x3 + (1 : Int32)) := ⟨_, rfl⟩
      have hf := bnd_eq hf e_x3_7
      refine lv_iinc (v := x3_7) (lv' := [(3, .int x3_7), (0, .ref (Am 0)), (1, .int x1), (2, .int x2)]) hx hb dX12_stow_88 hl (k := 3) rfl (by rw [e_x3_7]; rfl) (by decide) rfl (fun ls hl => ?_)
      refine lv_goto (tgt := 40) hx hb dX12_stow_91 (by decide) ?_
      exact h40 _ _ _ _ _ _ _ hf _ _ _ Y (lv_sub hl [1, 2, 3, 0] rfl)
    · have hf := ite_t hf c_6
      refine lv_iload_n hx hb dX12_stow_86 rfl (lv_at hl 3 rfl) ?_
      obtain ⟨e90, e91, e92, e93⟩ := sj4 hf
      subst e90
      subst e91
      subst e92
      subst e93
      exact x_iret X Y dX12_stow_87
def M_stow_40 (rc40 : Int32 → Int32 → Int32 → (Nat → Int32) → (Nat → Int32) → Int32 → Int32 → Option (Int32 × (Nat → Int32) × Int32 × Int32)) (x1 : Int32) (x2 : Int32) (x3 : Int32) (w : Nat → Int32) (rf : Nat → Int32) (lst : Int32) (lwo : Int32) : Option (Int32 × (Nat → Int32) × Int32 × Int32) := if (3 : Int32) < x3 then (some ((-1 : Int32), rf, lst, lwo)) else (if x3 = (3 : Int32) then (M_stow_63 rc40 x1 x2 x3 (-1 : Int32) x2 (w 5) w rf lst lwo) else (M_stow_63 rc40 x1 x2 x3 x1 x2 (w 5) w rf lst lwo))
set_option maxHeartbeats 4000000 in
set_option maxRecDepth 100000 in
theorem bM_stow_40 {Am : Nat → Nat} {w : Nat → Int32} {kp : Nat → Int32} {tx : Nat → Int32} {td : Int32} {rf : Nat → Int32} {fa : Int64} {fb : Int64} {ap : Int32} {sp : Int32} {iw : Int32} {ig : Int32} {nu : Nat → Int32} {lst : Int32} {lwo : Int32} {hh : Int64} {rf_z : Nat → Int32} {lst_z : Int32} {lwo_z : Int32} {r0 : Int32} {x1 : Int32} {x2 : Int32} {x3 : Int32} {rc40 : Int32 → Int32 → Int32 → (Nat → Int32) → (Nat → Int32) → Int32 → Int32 → Option (Int32 × (Nat → Int32) × Int32 × Int32)} (X : Cx Γ p s m args meth c RX12 cX12_stow 4 (some .int) w0) (h40 : ∀ (x1 : Int32) (x2 : Int32) (x3 : Int32) (w : Nat → Int32) (rf : Nat → Int32) (lst : Int32) (lwo : Int32), rc40 x1 x2 x3 w rf lst lwo = some (r0, rf_z, lst_z, lwo_z) → ∀ (H : Heap) (locs : List Loc) (ls : Array Slot), Wd Γ w0 s (WM Γ Am w kp tx td rf fa fb ap sp iw ig nu lst lwo hh) H locs → lv_has ls 4 [(0, .ref (Am 0)), (1, .int x1), (2, .int x2), (3, .int x3)] → W p l e rmM_stow s m args below meth c H locs 0 0 (EI Γ below args s w0 (WM Γ Am w kp tx td rf_z fa fb ap sp iw ig nu lst_z lwo_z hh) r0) (F0 m 40 ls [])) (hf : M_stow_40 rc40 x1 x2 x3 w rf lst lwo = some (r0, rf_z, lst_z, lwo_z)) (Y : Wd Γ w0 s (WM Γ Am w kp tx td rf fa fb ap sp iw ig nu lst lwo hh) H locs) (hl : lv_has ls 4 [(0, .ref (Am 0)), (1, .int x1), (2, .int x2), (3, .int x3)]) : W p l e rmM_stow s m args below meth c H locs 0 0 (EI Γ below args s w0 (WM Γ Am w kp tx td rf_z fa fb ap sp iw ig nu lst_z lwo_z hh) r0) (F0 m 40 ls []) := by
  have hx := X.1
  have hb := X.2.1
  refine lv_iload_n hx hb dX12_stow_40 rfl (lv_at hl 3 rfl) ?_
  refine lv_iconst (v := (3 : Int32)) hx hb dX12_stow_41 (by decide) ?_
  refine lv_icmp_gt (tgt := 94) hx hb dX12_stow_42 (by decide) (fun c_1 => ?_) (fun c_1 => ?_)
  · have hf := ite_t hf c_1
    refine lv_iconst (v := (-1 : Int32)) hx hb dX12_stow_94 (by decide) ?_
    obtain ⟨e90, e91, e92, e93⟩ := sj4 hf
    subst e90
    subst e91
    subst e92
    subst e93
    exact x_iret X Y dX12_stow_95
  · have hf := ite_f hf c_1
    refine lv_aload_n hx hb dX12_stow_45 rfl (lv_at hl 0 rfl) ?_
    refine lv_aload_n hx hb dX12_stow_46 rfl (lv_at hl 0 rfl) ?_
    refine gfX12_7 X Y (v := .ref (Am 1)) 0 rfl rfl dX12_stow_47 ?_
    refine lv_iconst (v := (5 : Int32)) hx hb dX12_stow_50 (by decide) ?_
    refine x_iald X Y 1 rfl (j := 5) rfl rfl dX12_stow_51 ?_
    refine lv_iload_n hx hb dX12_stow_52 rfl (lv_at hl 2 rfl) ?_
    refine lv_iload_n hx hb dX12_stow_53 rfl (lv_at hl 3 rfl) ?_
    refine lv_iconst (v := (3 : Int32)) hx hb dX12_stow_54 (by decide) ?_
    refine lv_icmp_ne (tgt := 62) hx hb dX12_stow_55 (by decide) (fun c_2 => ?_) (fun c_2 => ?_)
    · have hf := ite_f hf c_2
      refine lv_iload_n hx hb dX12_stow_62 rfl (lv_at hl 1 rfl) ?_
      exact bM_stow_63 X h40 hf Y (lv_sub hl [0, 1, 2, 3] rfl)
    · have hf := ite_t hf c_2
      refine lv_iconst (v := (-1 : Int32)) hx hb dX12_stow_58 (by decide) ?_
      refine lv_goto (tgt := 63) hx hb dX12_stow_59 (by decide) ?_
      exact bM_stow_63 X h40 hf Y (lv_sub hl [0, 1, 2, 3] rfl)
def M_stow_L40 : Nat → Int32 → Int32 → Int32 → (Nat → Int32) → (Nat → Int32) → Int32 → Int32 → Option (Int32 × (Nat → Int32) × Int32 × Int32)
  | 0, _, _, _, _, _, _, _ => none
  | n + 1, x1, x2, x3, w, rf, lst, lwo => M_stow_40 (M_stow_L40 n) x1 x2 x3 w rf lst lwo
theorem lM_stow_40 {Am : Nat → Nat} {kp : Nat → Int32} {tx : Nat → Int32} {td : Int32} {fa : Int64} {fb : Int64} {ap : Int32} {sp : Int32} {iw : Int32} {ig : Int32} {nu : Nat → Int32} {hh : Int64} {rf_z : Nat → Int32} {lst_z : Int32} {lwo_z : Int32} {r0 : Int32} (X : Cx Γ p s m args meth c RX12 cX12_stow 4 (some .int) w0) : ∀ (n : Nat) (x1 : Int32) (x2 : Int32) (x3 : Int32) (w : Nat → Int32) (rf : Nat → Int32) (lst : Int32) (lwo : Int32), M_stow_L40 n x1 x2 x3 w rf lst lwo = some (r0, rf_z, lst_z, lwo_z) → ∀ (H : Heap) (locs : List Loc) (ls : Array Slot), Wd Γ w0 s (WM Γ Am w kp tx td rf fa fb ap sp iw ig nu lst lwo hh) H locs → lv_has ls 4 [(0, .ref (Am 0)), (1, .int x1), (2, .int x2), (3, .int x3)] → W p l e rmM_stow s m args below meth c H locs 0 0 (EI Γ below args s w0 (WM Γ Am w kp tx td rf_z fa fb ap sp iw ig nu lst_z lwo_z hh) r0) (F0 m 40 ls []) := by
  intro n
  induction n with
  | zero => intro x1 x2 x3 w rf lst lwo hf; cases hf
  | succ n ih => intro x1 x2 x3 w rf lst lwo hf H locs ls Y hl; exact bM_stow_40 X ih hf Y hl
def M_stow (x1 : Int32) (x2 : Int32) (w : Nat → Int32) (rf : Nat → Int32) (lst : Int32) (lwo : Int32) : Option (Int32 × (Nat → Int32) × Int32 × Int32) := bd1 (M_isGoods x1 w) (fun (r_1 : Int32) => if r_1 = 0 then (M_stow_15 w rf lst lwo) else (bd1 (M_isStorm x2) (fun (r_3 : Int32) => if r_3 = 0 then (M_stow_15 w rf lst lwo) else (bd1 (M_has (w 5) x1) (fun (r_5 : Int32) => if r_5 = 0 then (bd2 (M_no rf) (fun (r_7 : Int32) (rf_8 : Nat → Int32) => some (r_7, rf_8, lst, lwo))) else (M_stow_L40 FU x1 x2 (0 : Int32) w rf lst lwo))))))
set_option maxHeartbeats 4000000 in
set_option maxRecDepth 100000 in
theorem bM_stow_e {Am : Nat → Nat} {w : Nat → Int32} {kp : Nat → Int32} {tx : Nat → Int32} {td : Int32} {rf : Nat → Int32} {fa : Int64} {fb : Int64} {ap : Int32} {sp : Int32} {iw : Int32} {ig : Int32} {nu : Nat → Int32} {lst : Int32} {lwo : Int32} {hh : Int64} {rf_z : Nat → Int32} {lst_z : Int32} {lwo_z : Int32} {r0 : Int32} {x1 : Int32} {x2 : Int32} (X : Cx Γ p s m args meth c RX12 cX12_stow 4 (some .int) w0) (hf : M_stow x1 x2 w rf lst lwo = some (r0, rf_z, lst_z, lwo_z)) (Y : Wd Γ w0 s (WM Γ Am w kp tx td rf fa fb ap sp iw ig nu lst lwo hh) H locs) (hl : lv_has ls 4 [(0, .ref (Am 0)), (1, .int x1), (2, .int x2)]) : W p l e rmM_stow s m args below meth c H locs 0 0 (EI Γ below args s w0 (WM Γ Am w kp tx td rf_z fa fb ap sp iw ig nu lst_z lwo_z hh) r0) (F0 m 0 ls []) := by
  have hx := X.1
  have hb := X.2.1
  refine lv_aload_n hx hb dX12_stow_0 rfl (lv_at hl 0 rfl) ?_
  refine lv_iload_n hx hb dX12_stow_1 rfl (lv_at hl 1 rfl) ?_
  obtain ⟨r_1, ho_12, hf⟩ := bd1_some hf
  refine t_i Y (bkS Y) (r_V (As := [.int x1]) (rest := []) X (c_preS X Y) (cM_isGoods ho_12) (cwX12_67 X (by decide)) (va_recv X.K Y.1 (q := (RX12, TX12, 15)) (q0 := 0) (ci := 12) rfl rfl) rfl hl.1 (Nat.le_of_ble_eq_true rfl) rfl dX12_stow_2 ⟨Nat.zero_le _, Nat.zero_le _⟩) (fun H locs Y => ?_)
  refine lv_if_eq (tgt := 15) hx hb dX12_stow_5 (by decide) (fun c_2 => ?_) (fun c_2 => ?_)
  · have hf := ite_t hf c_2
    exact bM_stow_15 X hf Y (lv_sub hl [0] rfl)
  · have hf := ite_f hf c_2
    refine lv_iload_n hx hb dX12_stow_8 rfl (lv_at hl 2 rfl) ?_
    obtain ⟨r_3, ho_11, hf⟩ := bd1_some hf
    refine t_i Y (bk0 Y) (r_S (As := [.int x2]) (rest := []) X (c_pre0 X Y) (cM_isStorm ho_11) (cwX12_163 X (by decide)) rfl hl.1 (Nat.le_of_ble_eq_true rfl) rfl dX12_stow_9 ⟨Nat.zero_le _, Nat.zero_le _⟩) (fun H locs Y => ?_)
    refine lv_if_ne (tgt := 20) hx hb dX12_stow_12 (by decide) (fun c_4 => ?_) (fun c_4 => ?_)
    · have hf := ite_f hf c_4
      refine lv_aload_n hx hb dX12_stow_20 rfl (lv_at hl 0 rfl) ?_
      refine gfX12_7 X Y (v := .ref (Am 1)) 0 rfl rfl dX12_stow_21 ?_
      refine lv_iconst (v := (5 : Int32)) hx hb dX12_stow_24 (by decide) ?_
      refine x_iald X Y 1 rfl (j := 5) rfl rfl dX12_stow_25 ?_
      refine lv_iload_n hx hb dX12_stow_26 rfl (lv_at hl 1 rfl) ?_
      obtain ⟨r_5, ho_10, hf⟩ := bd1_some hf
      refine t_i Y (bk0 Y) (r_S (As := [.int (w 5), .int x1]) (rest := []) X (c_pre0 X Y) (cM_has ho_10) (cwX12_70 X (by decide)) rfl hl.1 (Nat.le_of_ble_eq_true rfl) rfl dX12_stow_27 ⟨Nat.zero_le _, Nat.zero_le _⟩) (fun H locs Y => ?_)
      refine lv_if_ne (tgt := 38) hx hb dX12_stow_30 (by decide) (fun c_6 => ?_) (fun c_6 => ?_)
      · have hf := ite_f hf c_6
        refine lv_iconst (v := (0 : Int32)) hx hb dX12_stow_38 (by decide) ?_
        refine lv_istore_n (lv' := [(3, .int (0 : Int32)), (0, .ref (Am 0)), (1, .int x1), (2, .int x2)]) hx hb dX12_stow_39 rfl hl (by decide) rfl (fun ls hl => ?_)
        exact lM_stow_40 X _ _ _ _ _ _ _ _ hf _ _ _ Y (lv_sub hl [1, 2, 3, 0] rfl)
      · have hf := ite_t hf c_6
        refine lv_aload_n hx hb dX12_stow_33 rfl (lv_at hl 0 rfl) ?_
        obtain ⟨r_7, rf_8, ho_9, hf⟩ := bd2_some hf
        refine t_i Y (bkS Y) (r_V (As := []) (rest := []) X (c_preS X Y) (cM_no ho_9) (cwX12_152 X (by decide)) (va_recv X.K Y.1 (q := (RX12, TX12, 15)) (q0 := 0) (ci := 12) rfl rfl) rfl hl.1 (Nat.le_of_ble_eq_true rfl) rfl dX12_stow_34 ⟨Nat.zero_le _, Nat.zero_le _⟩) (fun H locs Y => ?_)
        obtain ⟨e90, e91, e92, e93⟩ := sj4 hf
        subst e90
        subst e91
        subst e92
        subst e93
        exact x_iret X Y dX12_stow_37
    · have hf := ite_t hf c_4
      exact bM_stow_15 X hf Y (lv_sub hl [0] rfl)
theorem cM_stow {l : Launch} {Γ : Gm} {Am : Nat → Nat} {w : Nat → Int32} {kp : Nat → Int32} {tx : Nat → Int32} {td : Int32} {rf : Nat → Int32} {fa : Int64} {fb : Int64} {ap : Int32} {sp : Int32} {iw : Int32} {ig : Int32} {nu : Nat → Int32} {lst : Int32} {lwo : Int32} {hh : Int64} {rf_z : Nat → Int32} {lst_z : Int32} {lwo_z : Int32} {r0 : Int32} {x1 : Int32} {x2 : Int32} (h : M_stow x1 x2 w rf lst lwo = some (r0, rf_z, lst_z, lwo_z)) : CI l Γ yX12_stow (Cond.code yX12_stow cX12_stow 4 (some .int) :: GW) rmM_stow [.ref (Am 0), .int x1, .int x2] (WM Γ Am w kp tx td rf fa fb ap sp iw ig nu lst lwo hh) (WM Γ Am w kp tx td rf_z fa fb ap sp iw ig nu lst_z lwo_z hh) r0 := ofBody (Qc := QcI Γ _ _ r0) (by decide) (Nat.le_of_ble_eq_true rfl) (fun p e s m below meth c ls _ X Y hl => bM_stow_e X h Y hl)
end
