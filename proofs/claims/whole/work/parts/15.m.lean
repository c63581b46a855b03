section
variable {p : Program} {l : Launch} {e : Env} {R : Room} {s : State} {m : MethodId} {args : Array Value} {below : List Frame} {meth : Method} {c : Code} {H : Heap} {locs : List Loc} {Q : State → Prop} {cells slots : Nat}
variable {Γ : Gm} {own : String} {cc : ByteArray} {nL : Nat} {ret : Option FieldType} {w0 ws ws' : va_W} {pc : Nat} {ls : Array Slot} {rest : List Value} {a : Nat}
def rmM_tell : Room := { frames := 4, cells := 0, slots := 0, locals := 86 }
def M_tell_124 (rc34 : Int32 → Int32 → Int32 → Int64 → Int64 → Int32 → (Nat → Int32) → (Nat → Int32) → Option (Int32 × (Nat → Int32) × (Nat → Int32))) (x1 : Int32) (x2 : Int32) (x3 : Int32) (x6 : Int64) (x8 : Int32) (x11 : Int64) (x13 : Int32) (y0 : Int64) (w : Nat → Int32) (rf : Nat → Int32) : Option (Int32 × (Nat → Int32) × (Nat → Int32)) := if x13 = 0 then (bnd (x8 + (1 : Int32)) (fun (x8_2 : Int32) => rc34 x1 x2 x3 y0 x6 x8_2 w rf)) else (bnd (x8 + (1 : Int32)) (fun (x8_3 : Int32) => rc34 x1 x2 x3 y0 x11 x8_3 w rf))
set_option maxHeartbeats 4000000 in
set_option maxRecDepth 100000 in
theorem bM_tell_124 {Am : Nat → Nat} {w : Nat → Int32} {kp : Nat → Int32} {tx : Nat → Int32} {td : Int32} {rf : Nat → Int32} {fa : Int64} {fb : Int64} {ap : Int32} {sp : Int32} {iw : Int32} {ig : Int32} {nu : Nat → Int32} {lst : Int32} {lwo : Int32} {hh : Int64} {w_z : Nat → Int32} {rf_z : Nat → Int32} {r0 : Int32} {x1 : Int32} {x2 : Int32} {x3 : Int32} {x6 : Int64} {x8 : Int32} {x11 : Int64} {x13 : Int32} {y0 : Int64} {rc34 : Int32 → Int32 → Int32 → Int64 → Int64 → Int32 → (Nat → Int32) → (Nat → Int32) → Option (Int32 × (Nat → Int32) × (Nat → Int32))} (X : Cx Γ p s m args meth c RX12 cX12_tell 14 (some .int) w0) (h34 : ∀ (x1 : Int32) (x2 : Int32) (x3 : Int32) (x4 : Int64) (x6 : Int64) (x8 : Int32) (w : Nat → Int32) (rf : Nat → Int32), rc34 x1 x2 x3 x4 x6 x8 w rf = some (r0, w_z, rf_z) → ∀ (H : Heap) (locs : List Loc) (ls : Array Slot), Wd Γ w0 s (WM Γ Am w kp tx td rf fa fb ap sp iw ig nu lst lwo hh) H locs → lv_has ls 14 [(0, .ref (Am 0)), (1, .int x1), (2, .int x2), (3, .int x3), (4, .long x4), (6, .long x6), (8, .int x8)] → W p l e rmM_tell s m args below meth c H locs 0 0 (EI Γ below args s w0 (WM Γ Am w_z kp tx td rf_z fa fb ap sp iw ig nu lst lwo hh) r0) (F0 m 34 ls [])) (hf : M_tell_124 rc34 x1 x2 x3 x6 x8 x11 x13 y0 w rf = some (r0, w_z, rf_z)) (Y : Wd Γ w0 s (WM Γ Am w kp tx td rf fa fb ap sp iw ig nu lst lwo hh) H locs) (hl : lv_has ls 14 [(0, .ref (Am 0)), (1, .int x1), (2, .int x2), (3, .int x3), (6, .long x6), (8, .int x8), (11, .long x11), (13, .int x13)]) : W p l e rmM_tell s m args below meth c H locs 0 0 (EI Γ below args s w0 (WM Γ Am w_z kp tx td rf_z fa fb ap sp iw ig nu lst lwo hh) r0) (F0 m 124 ls [.long y0]) := by
  have hx := X.1
  have hb := X.2.1
  refine lv_lstore (lv' := [(4, .long y0), (0, .ref (Am 0)), (1, .int x1), (2, .int x2), (3, .int x3), (6, .long x6), (8, .int x8), (11, .long x11), (13, .int x13)]) hx hb dX12_tell_124 hl (by decide) rfl (fun ls hl => ?_)
  refine lv_iload hx hb dX12_tell_126 (lv_at hl 8 rfl) ?_
  refine lv_if_eq (tgt := 136) hx hb dX12_tell_128 (by decide) (fun c_1 => ?_) (fun c_1 => ?_)
  · have hf := ite_t hf c_1
    refine lv_lload hx hb dX12_tell_136 (lv_at hl 5 rfl) ?_
    refine lv_lstore (lv' := [(6, .long x6), (4, .long y0), (0, .ref (Am 0)), (1, .int x1), (2, .int x2), (3, .int x3), (8, .int x8), (11, .long x11), (13, .int x13)]) hx hb dX12_tell_138 hl (by decide) rfl (fun ls hl => ?_)
    obtain ⟨x8_2, e_x8_2⟩ : ∃ z : Int32, z = (x8 + (1 : Int32)) := ⟨_, rfl⟩
    have hf := bnd_eq hf e_x8_2
    refine lv_iinc (v := x8_2) (lv' := [(8, .int x8_2), (6, .long x6), (4, .long y0), (0, .ref (Am 0)), (1, .int x1), (2, .int x2), (3, .int x3), (11, .long x11), (13, .int x13)]) hx hb dX12_tell_140 hl (k := 6) rfl (by rw [e_x8_2]; rfl) (by decide) rfl (fun ls hl => ?_)
    refine lv_goto (tgt := 34) hx hb dX12_tell_143 (by decide) ?_
    exact h34 _ _ _ _ _ _ _ _ hf _ _ _ Y (lv_sub hl [3, 4, 5, 6, 2, 1, 0] rfl)
  · have hf := ite_f hf c_1
    refine lv_lload hx hb dX12_tell_131 (lv_at hl 7 rfl) ?_
    refine lv_goto (tgt := 138) hx hb dX12_tell_133 (by decide) ?_
    refine lv_lstore (lv' := [(6, .long x11), (4, .long y0), (0, .ref (Am 0)), (1, .int x1), (2, .int x2), (3, .int x3), (8, .int x8), (11, .long x11), (13, .int x13)]) hx hb dX12_tell_138 hl (by decide) rfl (fun ls hl => ?_)
    obtain ⟨x8_3, e_x8_3⟩ : ∃ z : Int32, z = (x8 + (1 : Int32)) := ⟨_, rfl⟩
    have hf := bnd_eq hf e_x8_3
    refine lv_iinc (v := x8_3) (lv' := [(8, .int x8_3), (6, .long x11), (4, .long y0), (0, .ref (Am 0)), (1, .int x1), (2, .int x2), (3, .int x3), (11, .long x11), (13, .int x13)]) hx hb dX12_tell_140 hl (k := 6) rfl (by rw [e_x8_3]; rfl) (by decide) rfl (fun ls hl => ?_)
    refine lv_goto (tgt := 34) hx hb dX12_tell_143 (by decide) ?_
    exact h34 _ _ _ _ _ _ _ _ hf _ _ _ Y (lv_sub hl [3, 4, 5, 6, 2, 1, 0] rfl)
def M_tell_111 (rc34 : Int32 → Int32 → Int32 → Int64 → Int64 → Int32 → (Nat → Int32) → (Nat → Int32) → Option (Int32 × (Nat → Int32) × (Nat → Int32))) (x1 : Int32) (x2 : Int32) (x4 : Int64) (x6 : Int64) (x8 : Int32) (x9 : Int64) (x11 : Int64) (x13 : Int32) (y0 : Int32) (w : Nat → Int32) (rf : Nat → Int32) : Option (Int32 × (Nat → Int32) × (Nat → Int32)) := if x13 = 0 then (M_tell_124 rc34 x1 x2 y0 x6 x8 x11 x13 x4 w rf) else (M_tell_124 rc34 x1 x2 y0 x6 x8 x11 x13 x9 w rf)
set_option maxHeartbeats 4000000 in
set_option maxRecDepth 100000 in
theorem bM_tell_111 {Am : Nat → Nat} {w : Nat → Int32} {kp : Nat → Int32} {tx : Nat → Int32} {td : Int32} {rf : Nat → Int32} {fa : Int64} {fb : Int64} {ap : Int32} {sp : Int32} {iw : Int32} {ig : Int32} {nu : Nat → Int32} {lst : Int32} {lwo : Int32} {hh : Int64} {w_z : Nat → Int32} {rf_z : Nat → Int32} {r0 : Int32} {x1 : Int32} {x2 : Int32} {x4 : Int64} {x6 : Int64} {x8 : Int32} {x9 : Int64} {x11 : Int64} {x13 : Int32} {y0 : Int32} {rc34 : Int32 → Int32 → Int32 → Int64 → Int64 → Int32 → (Nat → Int32) → (Nat → Int32) → Option (Int32 × (Nat → Int32) × (Nat → Int32))} (X : Cx Γ p s m args meth c RX12 cX12_tell 14 (some .int) w0) (h34 : ∀ (x1 : Int32) (x2 : Int32) (x3 : Int32) (x4 : Int64) (x6 : Int64) (x8 : Int32) (w : Nat → Int32) (rf : Nat → Int32), rc34 x1 x2 x3 x4 x6 x8 w rf = some (r0, w_z, rf_z) → ∀ (H : Heap) (locs : List Loc) (ls : Array Slot), Wd Γ w0 s (WM Γ Am w kp tx td rf fa fb ap sp iw ig nu lst lwo hh) H locs → lv_has ls 14 [(0, .ref (Am 0)), (1, .int x1), (2, .int x2), (3, .int x3), (4, .long x4), (6, .long x6), (8, .int x8)] → W p l e rmM_tell s m args below meth c H locs 0 0 (EI Γ below args s w0 (WM Γ Am w_z kp tx td rf_z fa fb ap sp iw ig nu lst lwo hh) r0) (F0 m 34 ls [])) (hf : M_tell_111 rc34 x1 x2 x4 x6 x8 x9 x11 x13 y0 w rf = some (r0, w_z, rf_z)) (Y : Wd Γ w0 s (WM Γ Am w kp tx td rf fa fb ap sp iw ig nu lst lwo hh) H locs) (hl : lv_has ls 14 [(0, .ref (Am 0)), (1, .int x1), (2, .int x2), (4, .long x4), (6, .long x6), (8, .int x8), (9, .long x9), (11, .long x11), (13, .int x13)]) : W p l e rmM_tell s m args below meth c H locs 0 0 (EI Γ below args s w0 (WM Γ Am w_z kp tx td rf_z fa fb ap sp iw ig nu lst lwo hh) r0) (F0 m 111 ls [.int y0]) := by
  have hx := X.1
  have hb := X.2.1
  refine lv_istore_n (lv' := [(3, .int y0), (0, .ref (Am 0)), (1, .int x1), (2, .int x2), (4, .long x4), (6, .long x6), (8, .int x8), (9, .long x9), (11, .long x11), (13, .int x13)]) hx hb dX12_tell_111 rfl hl (by decide) rfl (fun ls hl => ?_)
  refine lv_iload hx hb dX12_tell_112 (lv_at hl 9 rfl) ?_
  refine lv_if_eq (tgt := 122) hx hb dX12_tell_114 (by decide) (fun c_1 => ?_) (fun c_1 => ?_)
  · have hf := ite_t hf c_1
    refine lv_lload hx hb dX12_tell_122 (lv_at hl 4 rfl) ?_
    exact bM_tell_124 X h34 hf Y (lv_sub hl [1, 2, 3, 0, 5, 6, 8, 9] rfl)
  · have hf := ite_f hf c_1
    refine lv_lload hx hb dX12_tell_117 (lv_at hl 7 rfl) ?_
    refine lv_goto (tgt := 124) hx hb dX12_tell_119 (by decide) ?_
    exact bM_tell_124 X h34 hf Y (lv_sub hl [1, 2, 3, 0, 5, 6, 8, 9] rfl)
def M_tell_98 (rc34 : Int32 → Int32 → Int32 → Int64 → Int64 → Int32 → (Nat → Int32) → (Nat → Int32) → Option (Int32 × (Nat → Int32) × (Nat → Int32))) (x1 : Int32) (x2 : Int32) (x3 : Int32) (x4 : Int64) (x6 : Int64) (x8 : Int32) (x9 : Int64) (x11 : Int64) (y0 : Int32) (w : Nat → Int32) (rf : Nat → Int32) : Option (Int32 × (Nat → Int32) × (Nat → Int32)) := if y0 = 0 then (M_tell_111 rc34 x1 x2 x4 x6 x8 x9 x11 y0 x3 w rf) else (M_tell_111 rc34 x1 x2 x4 x6 x8 x9 x11 y0 x8 w rf)
set_option maxHeartbeats 4000000 in
set_option maxRecDepth 100000 in
theorem bM_tell_98 {Am : Nat → Nat} {w : Nat → Int32} {kp : Nat → Int32} {tx : Nat → Int32} {td : Int32} {rf : Nat → Int32} {fa : Int64} {fb : Int64} {ap : Int32} {sp : Int32} {iw : Int32} {ig : Int32} {nu : Nat → Int32} {lst : Int32} {lwo : Int32} {hh : Int64} {w_z : Nat → Int32} {rf_z : Nat → Int32} {r0 : Int32} {x1 : Int32} {x2 : Int32} {x3 : Int32} {x4 : Int64} {x6 : Int64} {x8 : Int32} {x9 : Int64} {x11 : Int64} {y0 : Int32} {rc34 : Int32 → Int32 → Int32 → Int64 → Int64 → Int32 → (Nat → Int32) → (Nat → Int32) → Option (Int32 × (Nat → Int32) × (Nat → Int32))} (X : Cx Γ p s m args meth c RX12 cX12_tell 14 (some .int) w0) (h34 : ∀ (x1 : Int32) (x2 : Int32) (x3 : Int32) (x4 : Int64) (x6 : Int64) (x8 : Int32) (w : Nat → Int32) (rf : Nat → Int32), rc34 x1 x2 x3 x4 x6 x8 w rf = some (r0, w_z, rf_z) → ∀ (H : Heap) (locs : List Loc) (ls : Array Slot), Wd Γ w0 s (WM Γ Am w kp tx td rf fa fb ap sp iw ig nu lst lwo hh) H locs → lv_has ls 14 [(0, .ref (Am 0)), (1, .int x1), (2, .int x2), (3, .int x3), (4, .long x4), (6, .long x6), (8, .int x8)] → W p l e rmM_tell s m args below meth c H locs 0 0 (EI Γ below args s w0 (WM Γ Am w_z kp tx td rf_z fa fb ap sp iw ig nu lst lwo hh) r0) (F0 m 34 ls [])) (hf : M_tell_98 rc34 x1 x2 x3 x4 x6 x8 x9 x11 y0 w rf = some (r0, w_z, rf_z)) (Y : Wd Γ w0 s (WM Γ Am w kp tx td rf fa fb ap sp iw ig nu lst lwo hh) H locs) (hl : lv_has ls 14 [(0, .ref (Am 0)), (1, .int x1), (2, .int x2), (3, .int x3), (4, .long x4), (6, .long x6), (8, .int x8), (9, .long x9), (11, .long x11)]) : W p l e rmM_tell s m args below meth c H locs 0 0 (EI Γ below args s w0 (WM Γ Am w_z kp tx td rf_z fa fb ap sp iw ig nu lst lwo hh) r0) (F0 m 98 ls [.int y0]) := by
  have hx := X.1
  have hb := X.2.1
  refine lv_istore (lv' := [(13, .int y0), (0, .ref (Am 0)), (1, .int x1), (2, .int x2), (3, .int x3), (4, .long x4), (6, .long x6), (8, .int x8), (9, .long x9), (11, .long x11)]) hx hb dX12_tell_98 hl (by decide) rfl (fun ls hl => ?_)
  refine lv_iload hx hb dX12_tell_100 (lv_at hl 0 rfl) ?_
  refine lv_if_eq (tgt := 110) hx hb dX12_tell_102 (by decide) (fun c_1 => ?_) (fun c_1 => ?_)
  · have hf := ite_t hf c_1
    refine lv_iload_n hx hb dX12_tell_110 rfl (lv_at hl 4 rfl) ?_
    exact bM_tell_111 X h34 hf Y (lv_sub hl [1, 2, 3, 5, 6, 7, 8, 9, 0] rfl)
  · have hf := ite_f hf c_1
    refine lv_iload hx hb dX12_tell_105 (lv_at hl 7 rfl) ?_
    refine lv_goto (tgt := 111) hx hb dX12_tell_107 (by decide) ?_
    exact bM_tell_111 X h34 hf Y (lv_sub hl [1, 2, 3, 5, 6, 7, 8, 9, 0] rfl)
def M_tell_93 (rc34 : Int32 → Int32 → Int32 → Int64 → Int64 → Int32 → (Nat → Int32) → (Nat → Int32) → Option (Int32 × (Nat → Int32) × (Nat → Int32))) (x1 : Int32) (x2 : Int32) (x3 : Int32) (x4 : Int64) (x6 : Int64) (x8 : Int32) (x9 : Int64) (x11 : Int64) (w : Nat → Int32) (rf : Nat → Int32) : Option (Int32 × (Nat → Int32) × (Nat → Int32)) := M_tell_98 rc34 x1 x2 x3 x4 x6 x8 x9 x11 (1 : Int32) w rf
set_option maxHeartbeats 4000000 in
set_option maxRecDepth 100000 in
theorem bM_tell_93 {Am : Nat → Nat} {w : Nat → Int32} {kp : Nat → Int32} {tx : Nat → Int32} {td : Int32} {rf : Nat → Int32} {fa : Int64} {fb : Int64} {ap : Int32} {sp : Int32} {iw : Int32} {ig : Int32} {nu : Nat → Int32} {lst : Int32} {lwo : Int32} {hh : Int64} {w_z : Nat → Int32} {rf_z : Nat → Int32} {r0 : Int32} {x1 : Int32} {x2 : Int32} {x3 : Int32} {x4 : Int64} {x6 : Int64} {x8 : Int32} {x9 : Int64} {x11 : Int64} {rc34 : Int32 → Int32 → Int32 → Int64 → Int64 → Int32 → (Nat → Int32) → (Nat → Int32) → Option (Int32 × (Nat → Int32) × (Nat → Int32))} (X : Cx Γ p s m args meth c RX12 cX12_tell 14 (some .int) w0) (h34 : ∀ (x1 : Int32) (x2 : Int32) (x3 : Int32) (x4 : Int64) (x6 : Int64) (x8 : Int32) (w : Nat → Int32) (rf : Nat → Int32), rc34 x1 x2 x3 x4 x6 x8 w rf = some (r0, w_z, rf_z) → ∀ (H : Heap) (locs : List Loc) (ls : Array Slot), Wd Γ w0 s (WM Γ Am w kp tx td rf fa fb ap sp iw ig nu lst lwo hh) H locs → lv_has ls 14 [(0, .ref (Am 0)), (1, .int x1), (2, .int x2), (3, .int x3), (4, .long x4), (6, .long x6), (8, .int x8)] → W p l e rmM_tell s m args below meth c H locs 0 0 (EI Γ below args s w0 (WM Γ Am w_z kp tx td rf_z fa fb ap sp iw ig nu lst lwo hh) r0) (F0 m 34 ls [])) (hf : M_tell_93 rc34 x1 x2 x3 x4 x6 x8 x9 x11 w rf = some (r0, w_z, rf_z)) (Y : Wd Γ w0 s (WM Γ Am w kp tx td rf fa fb ap sp iw ig nu lst lwo hh) H locs) (hl : lv_has ls 14 [(0, .ref (Am 0)), (1, .int x1), (2, .int x2), (3, .int x3), (4, .long x4), (6, .long x6), (8, .int x8), (9, .long x9), (11, .long x11)]) : W p l e rmM_tell s m args below meth c H locs 0 0 (EI Γ below args s w0 (WM Γ Am w_z kp tx td rf_z fa fb ap sp iw ig nu lst lwo hh) r0) (F0 m 93 ls []) := by
  have hx := X.1
  have hb := X.2.1
  refine lv_iconst (v := (1 : Int32)) hx hb dX12_tell_93 (by decide) ?_
  refine lv_goto (tgt := 98) hx hb dX12_tell_94 (by decide) ?_
  exact bM_tell_98 X h34 hf Y (lv_sub hl [0, 1, 2, 3, 4, 5, 6, 7, 8] rfl)
def M_tell_34 (rc34 : Int32 → Int32 → Int32 → Int64 → Int64 → Int32 → (Nat → Int32) → (Nat → Int32) → Option (Int32 × (Nat → Int32) × (Nat → Int32))) (x1 : Int32) (x2 : Int32) (x3 : Int32) (x4 : Int64) (x6 : Int64) (x8 : Int32) (w : Nat → Int32) (rf : Nat → Int32) : Option (Int32 × (Nat → Int32) × (Nat → Int32)) := if (60 : Int32) < x8 then (ck (inb ((46 : Int32) + x1) 320) (bnd (upd w ((46 : Int32) + x1).toNatClampNeg x2) (fun (w_2 : Nat → Int32) => some (x3, w_2, rf)))) else (ck (inb ((46 : Int32) + x1) 320) (bnd (upd w ((46 : Int32) + x1).toNatClampNeg x8) (fun (w_4 : Nat → Int32) => ck (inb ((14 : Int32) + x1) 320) (bd1 (M_netOf (w_4 ((14 : Int32) + x1).toNatClampNeg) w_4) (fun (r_7 : Int64) => bd1 (M_whole w_4) (fun (r_8 : Int32) => bnd r_8.toInt64 (fun (x11_9 : Int64) => if x3 = (-1 : Int32) then (M_tell_93 rc34 x1 x2 x3 x4 x6 x8 r_7 x11_9 w_4 rf) else (if 0 ≤ (lg_cmp (r_7 * x6) (x4 * x11_9)) then (M_tell_98 rc34 x1 x2 x3 x4 x6 x8 r_7 x11_9 (0 : Int32) w_4 rf) else (M_tell_93 rc34 x1 x2 x3 x4 x6 x8 r_7 x11_9 w_4 rf)))))))))
set_option maxHeartbeats 4000000 in
set_option maxRecDepth 100000 in
theorem bM_tell_34 {Am : Nat → Nat} {w : Nat → Int32} {kp : Nat → Int32} {tx : Nat → Int32} {td : Int32} {rf : Nat → Int32} {fa : Int64} {fb : Int64} {ap : Int32} {sp : Int32} {iw : Int32} {ig : Int32} {nu : Nat → Int32} {lst : Int32} {lwo : Int32} {hh : Int64} {w_z : Nat → Int32} {rf_z : Nat → Int32} {r0 : Int32} {x1 : Int32} {x2 : Int32} {x3 : Int32} {x4 : Int64} {x6 : Int64} {x8 : Int32} {rc34 : Int32 → Int32 → Int32 → Int64 → Int64 → Int32 → (Nat → Int32) → (Nat → Int32) → Option (Int32 × (Nat → Int32) × (Nat → Int32))} (X : Cx Γ p s m args meth c RX12 cX12_tell 14 (some .int) w0) (h34 : ∀ (x1 : Int32) (x2 : Int32) (x3 : Int32) (x4 : Int64) (x6 : Int64) (x8 : Int32) (w : Nat → Int32) (rf : Nat → Int32), rc34 x1 x2 x3 x4 x6 x8 w rf = some (r0, w_z, rf_z) → ∀ (H : Heap) (locs : List Loc) (ls : Array Slot), Wd Γ w0 s (WM Γ Am w kp tx td rf fa fb ap sp iw ig nu lst lwo hh) H locs → lv_has ls 14 [(0, .ref (Am 0)), (1, .int x1), (2, .int x2), (3, .int x3), (4, .long x4), (6, .long x6), (8, .int x8)] → W p l e rmM_tell s m args below meth c H locs 0 0 (EI Γ below args s w0 (WM Γ Am w_z kp tx td rf_z fa fb ap sp iw ig nu lst lwo hh) r0) (F0 m 34 ls [])) (hf : M_tell_34 rc34 x1 x2 x3 x4 x6 x8 w rf = some (r0, w_z, rf_z)) (Y : Wd Γ w0 s (WM Γ Am w kp tx td rf fa fb ap sp iw ig nu lst lwo hh) H locs) (hl : lv_has ls 14 [(0, .ref (Am 0)), (1, .int x1), (2, .int x2), (3, .int x3), (4, .long x4), (6, .long x6), (8, .int x8)]) : W p l e rmM_tell s m args below meth c H locs 0 0 (EI Γ below args s w0 (WM Γ Am w_z kp tx td rf_z fa fb ap sp iw ig nu lst lwo hh) r0) (F0 m 34 ls []) := by
  have hx := X.1
  have hb := X.2.1
  refine lv_iload hx hb dX12_tell_34 (lv_at hl 6 rfl) ?_
  refine lv_bipush (v := (60 : Int32)) hx hb dX12_tell_36 (by decide) ?_
  refine lv_icmp_gt (tgt := 146) hx hb dX12_tell_38 (by decide) (fun c_1 => ?_) (fun c_1 => ?_)
  · have hf := ite_t hf c_1
    refine lv_aload_n hx hb dX12_tell_146 rfl (lv_at hl 0 rfl) ?_
    refine gfX12_7 X Y (v := .ref (Am 1)) 0 rfl rfl dX12_tell_147 ?_
    refine lv_bipush (v := (46 : Int32)) hx hb dX12_tell_150 (by decide) ?_
    refine lv_iload_n hx hb dX12_tell_152 rfl (lv_at hl 1 rfl) ?_
    refine lv_iadd hx hb dX12_tell_153 ?_
    refine lv_iload_n hx hb dX12_tell_154 rfl (lv_at hl 2 rfl) ?_
    obtain ⟨hi_3, hf⟩ := ck_some hf
    obtain ⟨w_2, e_w_2⟩ : ∃ z : Nat → Int32, z = (upd w ((46 : Int32) + x1).toNatClampNeg x2) := ⟨_, rfl⟩
    have hf := bnd_eq hf e_w_2
    refine x_iast X Y 1 rfl rfl hi_3 (ws' := (WM Γ Am w_2 kp tx td rf fa fb ap sp iw ig nu lst lwo hh)) (by subst e_w_2; rfl) dX12_tell_155 (fun H locs Y => ?_)
    refine lv_iload_n hx hb dX12_tell_156 rfl (lv_at hl 3 rfl) ?_
    obtain ⟨e90, e91, e92⟩ := sj3 hf
    subst e90
    subst e91
    subst e92
    exact x_iret X Y dX12_tell_157
  · have hf := ite_f hf c_1
    refine lv_aload_n hx hb dX12_tell_41 rfl (lv_at hl 0 rfl) ?_
    refine gfX12_7 X Y (v := .ref (Am 1)) 0 rfl rfl dX12_tell_42 ?_
    refine lv_bipush (v := (46 : Int32)) hx hb dX12_tell_45 (by decide) ?_
    refine lv_iload_n hx hb dX12_tell_47 rfl (lv_at hl 1 rfl) ?_
    refine lv_iadd hx hb dX12_tell_48 ?_
    refine lv_iload hx hb dX12_tell_49 (lv_at hl 6 rfl) ?_
    obtain ⟨hi_5, hf⟩ := ck_some hf
    obtain ⟨w_4, e_w_4⟩ : ∃ z : Nat → Int32, z = (upd w ((46 : Int32) + x1).toNatClampNeg x8) := ⟨_, rfl⟩
    have hf := bnd_eq hf e_w_4
    refine x_iast X Y 1 rfl rfl hi_5 (ws' := (WM Γ Am w_4 kp tx td rf fa fb ap sp iw ig nu lst lwo hh)) (by subst e_w_4; rfl) dX12_tell_51 (fun H locs Y => ?_)
    refine lv_aload_n hx hb dX12_tell_52 rfl (lv_at hl 0 rfl) ?_
    refine lv_aload_n hx hb dX12_tell_53 rfl (lv_at hl 0 rfl) ?_
    refine gfX12_7 X Y (v := .ref (Am 1)) 0 rfl rfl dX12_tell_54 ?_
    refine lv_bipush (v := (14 : Int32)) hx hb dX12_tell_57 (by decide) ?_
    refine lv_iload_n hx hb dX12_tell_59 rfl (lv_at hl 1 rfl) ?_
    refine lv_iadd hx hb dX12_tell_60 ?_
    obtain ⟨hi_6, hf⟩ := ck_some hf
    refine x_iald X Y 1 rfl rfl hi_6 dX12_tell_61 ?_
    obtain ⟨r_7, ho_13, hf⟩ := bd1_some hf
    refine t_l Y (bkS Y) (r_V (As := [.int (w_4 ((14 : Int32) + x1).toNatClampNeg)]) (rest := []) X (c_preS X Y) (cM_netOf ho_13) (cwX12_190 X (by decide)) (va_recv X.K Y.1 (q := (RX12, TX12, 15)) (q0 := 0) (ci := 12) rfl rfl) rfl hl.1 (Nat.le_of_ble_eq_true rfl) rfl dX12_tell_62 ⟨Nat.zero_le _, Nat.zero_le _⟩) (fun H locs Y => ?_)
    refine lv_lstore (lv' := [(9, .long r_7), (0, .ref (Am 0)), (1, .int x1), (2, .int x2), (3, .int x3), (4, .long x4), (6, .long x6), (8, .int x8)]) hx hb dX12_tell_65 hl (by decide) rfl (fun ls hl => ?_)
    refine lv_aload_n hx hb dX12_tell_67 rfl (lv_at hl 1 rfl) ?_
    obtain ⟨r_8, ho_12, hf⟩ := bd1_some hf
    refine t_i Y (bkS Y) (r_V (As := []) (rest := []) X (c_preS X Y) (cM_whole ho_12) (cwX12_183 X (by decide)) (va_recv X.K Y.1 (q := (RX12, TX12, 15)) (q0 := 0) (ci := 12) rfl rfl) rfl hl.1 (Nat.le_of_ble_eq_true rfl) rfl dX12_tell_68 ⟨Nat.zero_le _, Nat.zero_le _⟩) (fun H locs Y => ?_)
    refine lv_i2l (v := r_8.toInt64) hx hb dX12_tell_71 rfl ?_
    refine lv_topl (fun x11_9 e_x11_9 => ?_)
    have hf := bnd_eq hf e_x11_9
    refine lv_lstore (lv' := [(11, .long x11_9), (9, .long r_7), (0, .ref (Am 0)), (1, .int x1), (2, .int x2), (3, .int x3), (4, .long x4), (6, .long x6), (8, .int x8)]) hx hb dX12_tell_72 hl (by decide) rfl (fun ls hl => ?_)
    refine lv_iload_n hx hb dX12_tell_74 rfl (lv_at hl 5 rfl) ?_
    refine lv_iconst (v := (-1 : Int32)) hx hb dX12_tell_75 (by decide) ?_
    refine lv_icmp_eq (tgt := 93) hx hb dX12_tell_76 (by decide) (fun c_10 => ?_) (fun c_10 => ?_)
    · have hf := ite_t hf c_10
      exact bM_tell_93 X h34 hf Y (lv_sub hl [2, 3, 4, 5, 6, 7, 8, 1, 0] rfl)
    · have hf := ite_f hf c_10
      refine lv_lload hx hb dX12_tell_79 (lv_at hl 1 rfl) ?_
      refine lv_lload hx hb dX12_tell_81 (lv_at hl 7 rfl) ?_
      refine lv_lmul hx hb dX12_tell_83 ?_
      refine lv_lload hx hb dX12_tell_84 (lv_at hl 6 rfl) ?_
      refine lv_lload hx hb dX12_tell_86 (lv_at hl 0 rfl) ?_
      refine lv_lmul hx hb dX12_tell_88 ?_
      refine W.lcmp hx hb dX12_tell_89 ?_
      refine lv_if_ge (tgt := 97) hx hb dX12_tell_90 (by decide) (fun c_11 => ?_) (fun c_11 => ?_)
      · have hf := ite_t hf c_11
        refine lv_iconst (v := (0 : Int32)) hx hb dX12_tell_97 (by decide) ?_
        exact bM_tell_98 X h34 hf Y (lv_sub hl [2, 3, 4, 5, 6, 7, 8, 1, 0] rfl)
      · have hf := ite_f hf c_11
        exact bM_tell_93 X h34 hf Y (lv_sub hl [2, 3, 4, 5, 6, 7, 8, 1, 0] rfl)
def M_tell_L34 : Nat → Int32 → Int32 → Int32 → Int64 → Int64 → Int32 → (Nat → Int32) → (Nat → Int32) → Option (Int32 × (Nat → Int32) × (Nat → Int32))
  | 0, _, _, _, _, _, _, _, _ => none
  | n + 1, x1, x2, x3, x4, x6, x8, w, rf => M_tell_34 (M_tell_L34 n) x1 x2 x3 x4 x6 x8 w rf
theorem lM_tell_34 {Am : Nat → Nat} {kp : Nat → Int32} {tx : Nat → Int32} {td : Int32} {fa : Int64} {fb : Int64} {ap : Int32} {sp : Int32} {iw : Int32} {ig : Int32} {nu : Nat → Int32} {lst : Int32} {lwo : Int32} {hh : Int64} {w_z : Nat → Int32} {rf_z : Nat → Int32} {r0 : Int32} (X : Cx Γ p s m args meth c RX12 cX12_tell 14 (some .int) w0) : ∀ (n : Nat) (x1 : Int32) (x2 : Int32) (x3 : Int32) (x4 : Int64) (x6 : Int64) (x8 : Int32) (w : Nat → Int32) (rf : Nat → Int32), M_tell_L34 n x1 x2 x3 x4 x6 x8 w rf = some (r0, w_z, rf_z) → ∀ (H : Heap) (locs : List Loc) (ls : Array Slot), Wd Γ w0 s (WM Γ Am w kp tx td rf fa fb ap sp iw ig nu lst lwo hh) H locs → lv_has ls 14 [(0, .ref (Am 0)), (1, .int x1), (2, .int x2), (3, .int x3), (4, .long x4), (6, .long x6), (8, .int x8)] → W p l e rmM_tell s m args below meth c H locs 0 0 (EI Γ below args s w0 (WM Γ Am w_z kp tx td rf_z fa fb ap sp iw ig nu lst lwo hh) r0) (F0 m 34 ls []) := by
  intro n
  induction n with
  | zero => intro x1 x2 x3 x4 x6 x8 w rf hf; cases hf
  | succ n ih => intro x1 x2 x3 x4 x6 x8 w rf hf H locs ls Y hl; exact bM_tell_34 X ih hf Y hl
def M_tell (x1 : Int32) (w : Nat → Int32) (rf : Nat → Int32) : Option (Int32 × (Nat → Int32) × (Nat → Int32)) := bd1 (M_isGoods x1 w) (fun (r_1 : Int32) => if r_1 = 0 then (bd2 (M_bad rf) (fun (r_5 : Int32) (rf_6 : Nat → Int32) => some (r_5, w, rf_6))) else (ck (inb ((46 : Int32) + x1) 320) (bnd (w ((46 : Int32) + x1).toNatClampNeg) (fun (x2_4 : Int32) => M_tell_L34 FU x1 x2_4 (-1 : Int32) (0 : Int64) (1 : Int64) (0 : Int32) w rf))))
set_option maxHeartbeats 4000000 in
set_option maxRecDepth 100000 in
theorem bM_tell_e {Am : Nat → Nat} {w : Nat → Int32} {kp : Nat → Int32} {tx : Nat → Int32} {td : Int32} {rf : Nat → Int32} {fa : Int64} {fb : Int64} {ap : Int32} {sp : Int32} {iw : Int32} {ig : Int32} {nu : Nat → Int32} {lst : Int32} {lwo : Int32} {hh : Int64} {w_z : Nat → Int32} {rf_z : Nat → Int32} {r0 : Int32} {x1 : Int32} (X : Cx Γ p s m args meth c RX12 cX12_tell 14 (some .int) w0) (hf : M_tell x1 w rf = some (r0, w_z, rf_z)) (Y : Wd Γ w0 s (WM Γ Am w kp tx td rf fa fb ap sp iw ig nu lst lwo hh) H locs) (hl : lv_has ls 14 [(0, .ref (Am 0)), (1, .int x1)]) : W p l e rmM_tell s m args below meth c H locs 0 0 (EI Γ below args s w0 (WM Γ Am w_z kp tx td rf_z fa fb ap sp iw ig nu lst lwo hh) r0) (F0 m 0 ls []) := by
  have hx := X.1
  have hb := X.2.1
  refine lv_aload_n hx hb dX12_tell_0 rfl (lv_at hl 0 rfl) ?_
  refine lv_iload_n hx hb dX12_tell_1 rfl (lv_at hl 1 rfl) ?_
  obtain ⟨r_1, ho_8, hf⟩ := bd1_some hf
  refine t_i Y (bkS Y) (r_V (As := [.int x1]) (rest := []) X (c_preS X Y) (cM_isGoods ho_8) (cwX12_67 X (by decide)) (va_recv X.K Y.1 (q := (RX12, TX12, 15)) (q0 := 0) (ci := 12) rfl rfl) rfl hl.1 (Nat.le_of_ble_eq_true rfl) rfl dX12_tell_2 ⟨Nat.zero_le _, Nat.zero_le _⟩) (fun H locs Y => ?_)
  refine lv_if_ne (tgt := 13) hx hb dX12_tell_5 (by decide) (fun c_2 => ?_) (fun c_2 => ?_)
  · have hf := ite_f hf c_2
    refine lv_aload_n hx hb dX12_tell_13 rfl (lv_at hl 0 rfl) ?_
    refine gfX12_7 X Y (v := .ref (Am 1)) 0 rfl rfl dX12_tell_14 ?_
    refine lv_bipush (v := (46 : Int32)) hx hb dX12_tell_17 (by decide) ?_
    refine lv_iload_n hx hb dX12_tell_19 rfl (lv_at hl 1 rfl) ?_
    refine lv_iadd hx hb dX12_tell_20 ?_
    obtain ⟨hi_3, hf⟩ := ck_some hf
    refine x_iald X Y 1 rfl rfl hi_3 dX12_tell_21 ?_
    refine lv_topi (fun x2_4 e_x2_4 => ?_)
    have hf := bnd_eq hf e_x2_4
    refine lv_istore_n (lv' := [(2, .int x2_4), (0, .ref (Am 0)), (1, .int x1)]) hx hb dX12_tell_22 rfl hl (by decide) rfl (fun ls hl => ?_)
    refine lv_iconst (v := (-1 : Int32)) hx hb dX12_tell_23 (by decide) ?_
    refine lv_istore_n (lv' := [(3, .int (-1 : Int32)), (2, .int x2_4), (0, .ref (Am 0)), (1, .int x1)]) hx hb dX12_tell_24 rfl hl (by decide) rfl (fun ls hl => ?_)
    refine lv_lconst (v := (0 : Int64)) hx hb dX12_tell_25 (by decide) ?_
    refine lv_lstore (lv' := [(4, .long (0 : Int64)), (3, .int (-1 : Int32)), (2, .int x2_4), (0, .ref (Am 0)), (1, .int x1)]) hx hb dX12_tell_26 hl (by decide) rfl (fun ls hl => ?_)
    refine lv_lconst (v := (1 : Int64)) hx hb dX12_tell_28 (by decide) ?_
    refine lv_lstore (lv' := [(6, .long (1 : Int64)), (4, .long (0 : Int64)), (3, .int (-1 : Int32)), (2, .int x2_4), (0, .ref (Am 0)), (1, .int x1)]) hx hb dX12_tell_29 hl (by decide) rfl (fun ls hl => ?_)
    refine lv_iconst (v := (0 : Int32)) hx hb dX12_tell_31 (by decide) ?_
    refine lv_istore (lv' := [(8, .int (0 : Int32)), (6, .long (1 : Int64)), (4, .long (0 : Int64)), (3, .int (-1 : Int32)), (2, .int x2_4), (0, .ref (Am 0)), (1, .int x1)]) hx hb dX12_tell_32 hl (by decide) rfl (fun ls hl => ?_)
    exact lM_tell_34 X _ _ _ _ _ _ _ _ _ hf _ _ _ Y (lv_sub hl [5, 6, 4, 3, 2, 1, 0] rfl)
  · have hf := ite_t hf c_2
    refine lv_aload_n hx hb dX12_tell_8 rfl (lv_at hl 0 rfl) ?_
    obtain ⟨r_5, rf_6, ho_7, hf⟩ := bd2_some hf
    refine t_i Y (bkS Y) (r_V (As := []) (rest := []) X (c_preS X Y) (cM_bad ho_7) (cwX12_44 X (by decide)) (va_recv X.K Y.1 (q := (RX12, TX12, 15)) (q0 := 0) (ci := 12) rfl rfl) rfl hl.1 (Nat.le_of_ble_eq_true rfl) rfl dX12_tell_9 ⟨Nat.zero_le _, Nat.zero_le _⟩) (fun H locs Y => ?_)
    obtain ⟨e90, e91, e92⟩ := sj3 hf
    subst e90
    subst e91
    subst e92
    exact x_iret X Y dX12_tell_12
theorem cM_tell {l : Launch} {Γ : Gm} {Am : Nat → Nat} {w : Nat → Int32} {kp : Nat → Int32} {tx : Nat → Int32} {td : Int32} {rf : Nat → Int32} {fa : Int64} {fb : Int64} {ap : Int32} {sp : Int32} {iw : Int32} {ig : Int32} {nu : Nat → Int32} {lst : Int32} {lwo : Int32} {hh : Int64} {w_z : Nat → Int32} {rf_z : Nat → Int32} {r0 : Int32} {x1 : Int32} (h : M_tell x1 w rf = some (r0, w_z, rf_z)) : CI l Γ yX12_tell (Cond.code yX12_tell cX12_tell 14 (some .int) :: GW) rmM_tell [.ref (Am 0), .int x1] (WM Γ Am w kp tx td rf fa fb ap sp iw ig nu lst lwo hh) (WM Γ Am w_z kp tx td rf_z fa fb ap sp iw ig nu lst lwo hh) r0 := ofBody (Qc := QcI Γ _ _ r0) (by decide) (Nat.le_of_ble_eq_true rfl) (fun p e s m below meth c ls _ X Y hl => bM_tell_e X h Y hl)
def rmM_marked : Room := { frames := 4, cells := 0, slots := 0, locals := 86 }
def M_marked_20 (w : Nat → Int32) (rf : Nat → Int32) (fa : Int64) (fb : Int64) : Option (Int32 × (Nat → Int32) × (Nat → Int32) × Int64 × Int64) := bd2 (M_bad rf) (fun (r_1 : Int32) (rf_2 : Nat → Int32) => some (r_1, w, rf_2, fa, fb))
set_option maxHeartbeats 4000000 in
set_option maxRecDepth 100000 in
theorem bM_marked_20 {Am : Nat → Nat} {w : Nat → Int32} {kp : Nat → Int32} {tx : Nat → Int32} {td : Int32} {rf : Nat → Int32} {fa : Int64} {fb : Int64} {ap : Int32} {sp : Int32} {iw : Int32} {ig : Int32} {nu : Nat → Int32} {lst : Int32} {lwo : Int32} {hh : Int64} {w_z : Nat → Int32} {rf_z : Nat → Int32} {fa_z : Int64} {fb_z : Int64} {r0 : Int32} (X : Cx Γ p s m args meth c RX12 cX12_marked 5 (some .int) w0) (hf : M_marked_20 w rf fa fb = some (r0, w_z, rf_z, fa_z, fb_z)) (Y : Wd Γ w0 s (WM Γ Am w kp tx td rf fa fb ap sp iw ig nu lst lwo hh) H locs) (hl : lv_has ls 5 [(0, .ref (Am 0))]) : W p l e rmM_marked s m args below meth c H locs 0 0 (EI Γ below args s w0 (WM Γ Am w_z kp tx td rf_z fa_z fb_z ap sp iw ig nu lst lwo hh) r0) (F0 m 20 ls []) := by
  have hx := X.1
  have hb := X.2.1
  refine lv_aload_n hx hb dX12_marked_20 rfl (lv_at hl 0 rfl) ?_
  obtain ⟨r_1, rf_2, ho_3, hf⟩ := bd2_some hf
  refine t_i Y (bkS Y) (r_V (As := []) (rest := []) X (c_preS X Y) (cM_bad ho_3) (cwX12_44 X (by decide)) (va_recv X.K Y.1 (q := (RX12, TX12, 15)) (q0 := 0) (ci := 12) rfl rfl) rfl hl.1 (Nat.le_of_ble_eq_true rfl) rfl dX12_marked_21 ⟨Nat.zero_le _, Nat.zero_le _⟩) (fun H locs Y => ?_)
  obtain ⟨e90, e91, e92, e93, e94⟩ := sj5 hf
  subst e90
  subst e91
  subst e92
  subst e93
  subst e94
  exact x_iret X Y dX12_marked_24
def M_marked (x1 : Int32) (x2 : Int32) (w : Nat → Int32) (rf : Nat → Int32) (fa : Int64) (fb : Int64) : Option (Int32 × (Nat → Int32) × (Nat → Int32) × Int64 × Int64) := bd1 (M_isGoods x1 w) (fun (r_1 : Int32) => if r_1 = 0 then (M_marked_20 w rf fa fb) else (bd1 (M_in x2.toInt64 (0 : Int64) (60 : Int64)) (fun (r_3 : Int32) => if r_3 = 0 then (M_marked_20 w rf fa fb) else (ck (inb ((46 : Int32) + x1) 320) (bnd (w ((46 : Int32) + x1).toNatClampNeg) (fun (x3_6 : Int32) => ck (inb ((46 : Int32) + x1) 320) (bnd (upd w ((46 : Int32) + x1).toNatClampNeg x2) (fun (w_7 : Nat → Int32) => ck (inb ((14 : Int32) + x1) 320) (bd1 (M_netOf (w_7 ((14 : Int32) + x1).toNatClampNeg) w_7) (fun (r_10 : Int64) => bd1 (M_whole w_7) (fun (r_11 : Int32) => bd3 (M_tellsPart r_10 r_11.toInt64 fa fb) (fun (r_12 : Int32) (fa_13 : Int64) (fb_14 : Int64) => ck (inb ((46 : Int32) + x1) 320) (bnd (upd w_7 ((46 : Int32) + x1).toNatClampNeg x3_6) (fun (w_15 : Nat → Int32) => some (r_12, w_15, rf, fa_13, fb_14)))))))))))))))
set_option maxHeartbeats 4000000 in
set_option maxRecDepth 100000 in
theorem bM_marked_e {Am : Nat → Nat} {w : Nat → Int32} {kp : Nat → Int32} {tx : Nat → Int32} {td : Int32} {rf : Nat → Int32} {fa : Int64} {fb : Int64} {ap : Int32} {sp : Int32} {iw : Int32} {ig : Int32} {nu : Nat → Int32} {lst : Int32} {lwo : Int32} {hh : Int64} {w_z : Nat → Int32} {rf_z : Nat → Int32} {fa_z : Int64} {fb_z : Int64} {r0 : Int32} {x1 : Int32} {x2 : Int32} (X : Cx Γ p s m args meth c RX12 cX12_marked 5 (some .int) w0) (hf : M_marked x1 x2 w rf fa fb = some (r0, w_z, rf_z, fa_z, fb_z)) (Y : Wd Γ w0 s (WM Γ Am w kp tx td rf fa fb ap sp iw ig nu lst lwo hh) H locs) (hl : lv_has ls 5 [(0, .ref (Am 0)), (1, .int x1), (2, .int x2)]) : W p l e rmM_marked s m args below meth c H locs 0 0 (EI Γ below args s w0 (WM Γ Am w_z kp tx td rf_z fa_z fb_z ap sp iw ig nu lst lwo hh) r0) (F0 m 0 ls []) := by
  have hx := X.1
  have hb := X.2.1
  refine lv_aload_n hx hb dX12_marked_0 rfl (lv_at hl 0 rfl) ?_
  refine lv_iload_n hx hb dX12_marked_1 rfl (lv_at hl 1 rfl) ?_
  obtain ⟨r_1, ho_21, hf⟩ := bd1_some hf
  refine t_i Y (bkS Y) (r_V (As := [.int x1]) (rest := []) X (c_preS X Y) (cM_isGoods ho_21) (cwX12_67 X (by decide)) (va_recv X.K Y.1 (q := (RX12, TX12, 15)) (q0 := 0) (ci := 12) rfl rfl) rfl hl.1 (Nat.le_of_ble_eq_true rfl) rfl dX12_marked_2 ⟨Nat.zero_le _, Nat.zero_le _⟩) (fun H locs Y => ?_)
  refine lv_if_eq (tgt := 20) hx hb dX12_marked_5 (by decide) (fun c_2 => ?_) (fun c_2 => ?_)
  · have hf := ite_t hf c_2
    exact bM_marked_20 X hf Y (lv_sub hl [0] rfl)
  · have hf := ite_f hf c_2
    refine lv_iload_n hx hb dX12_marked_8 rfl (lv_at hl 2 rfl) ?_
    refine lv_i2l (v := x2.toInt64) hx hb dX12_marked_9 rfl ?_
    refine lv_lconst (v := (0 : Int64)) hx hb dX12_marked_10 (by decide) ?_
    refine lv_ldc2 (v := (60 : Int64)) hx hb X.2.2.2.1 (X.2.2.2.2.1 _ kw20) dX12_marked_11 ?_
    obtain ⟨r_3, ho_20, hf⟩ := bd1_some hf
    refine t_i Y (bk0 Y) (r_S (As := [.long x2.toInt64, .long (0 : Int64), .long (60 : Int64)]) (rest := []) X (c_pre0 X Y) (cM_in ho_20) (cwX12_34 X (by decide)) rfl hl.1 (Nat.le_of_ble_eq_true rfl) rfl dX12_marked_14 ⟨Nat.zero_le _, Nat.zero_le _⟩) (fun H locs Y => ?_)
    refine lv_if_ne (tgt := 25) hx hb dX12_marked_17 (by decide) (fun c_4 => ?_) (fun c_4 => ?_)
    · have hf := ite_f hf c_4
      refine lv_aload_n hx hb dX12_marked_25 rfl (lv_at hl 0 rfl) ?_
      refine gfX12_7 X Y (v := .ref (Am 1)) 0 rfl rfl dX12_marked_26 ?_
      refine lv_bipush (v := (46 : Int32)) hx hb dX12_marked_29 (by decide) ?_
      refine lv_iload_n hx hb dX12_marked_31 rfl (lv_at hl 1 rfl) ?_
      refine lv_iadd hx hb dX12_marked_32 ?_
      obtain ⟨hi_5, hf⟩ := ck_some hf
      refine x_iald X Y 1 rfl rfl hi_5 dX12_marked_33 ?_
      refine lv_topi (fun x3_6 e_x3_6 => ?_)
      have hf := bnd_eq hf e_x3_6
      refine lv_istore_n (lv' := [(3, .int x3_6), (0, .ref (Am 0)), (1, .int x1), (2, .int x2)]) hx hb dX12_marked_34 rfl hl (by decide) rfl (fun ls hl => ?_)
      refine lv_aload_n hx hb dX12_marked_35 rfl (lv_at hl 1 rfl) ?_
      refine gfX12_7 X Y (v := .ref (Am 1)) 0 rfl rfl dX12_marked_36 ?_
      refine lv_bipush (v := (46 : Int32)) hx hb dX12_marked_39 (by decide) ?_
      refine lv_iload_n hx hb dX12_marked_41 rfl (lv_at hl 2 rfl) ?_
      refine lv_iadd hx hb dX12_marked_42 ?_
      refine lv_iload_n hx hb dX12_marked_43 rfl (lv_at hl 3 rfl) ?_
      obtain ⟨hi_8, hf⟩ := ck_some hf
      obtain ⟨w_7, e_w_7⟩ : ∃ z : Nat → Int32, z = (upd w ((46 : Int32) + x1).toNatClampNeg x2) := ⟨_, rfl⟩
      have hf := bnd_eq hf e_w_7
      refine x_iast X Y 1 rfl rfl hi_8 (ws' := (WM Γ Am w_7 kp tx td rf fa fb ap sp iw ig nu lst lwo hh)) (by subst e_w_7; rfl) dX12_marked_44 (fun H locs Y => ?_)
      refine lv_aload_n hx hb dX12_marked_45 rfl (lv_at hl 1 rfl) ?_
      refine lv_aload_n hx hb dX12_marked_46 rfl (lv_at hl 1 rfl) ?_
      refine lv_aload_n hx hb dX12_marked_47 rfl (lv_at hl 1 rfl) ?_
      refine gfX12_7 X Y (v := .ref (Am 1)) 0 rfl rfl dX12_marked_48 ?_
      refine lv_bipush (v := (14 : Int32)) hx hb dX12_marked_51 (by decide) ?_
      refine lv_iload_n hx hb dX12_marked_53 rfl (lv_at hl 2 rfl) ?_
      refine lv_iadd hx hb dX12_marked_54 ?_
      obtain ⟨hi_9, hf⟩ := ck_some hf
      refine x_iald X Y 1 rfl rfl hi_9 dX12_marked_55 ?_
      obtain ⟨r_10, ho_19, hf⟩ := bd1_some hf
      refine t_l Y (bkS Y) (r_V (As := [.int (w_7 ((14 : Int32) + x1).toNatClampNeg)]) (rest := [.ref (Am 0)]) X (c_preS X Y) (cM_netOf ho_19) (cwX12_190 X (by decide)) (va_recv X.K Y.1 (q := (RX12, TX12, 15)) (q0 := 0) (ci := 12) rfl rfl) rfl hl.1 (Nat.le_of_ble_eq_true rfl) rfl dX12_marked_56 ⟨Nat.zero_le _, Nat.zero_le _⟩) (fun H locs Y => ?_)
      refine lv_aload_n hx hb dX12_marked_59 rfl (lv_at hl 1 rfl) ?_
      obtain ⟨r_11, ho_18, hf⟩ := bd1_some hf
      refine t_i Y (bkS Y) (r_V (As := []) (rest := [.long r_10, .ref (Am 0)]) X (c_preS X Y) (cM_whole ho_18) (cwX12_183 X (by decide)) (va_recv X.K Y.1 (q := (RX12, TX12, 15)) (q0 := 0) (ci := 12) rfl rfl) rfl hl.1 (Nat.le_of_ble_eq_true rfl) rfl dX12_marked_60 ⟨Nat.zero_le _, Nat.zero_le _⟩) (fun H locs Y => ?_)
      refine lv_i2l (v := r_11.toInt64) hx hb dX12_marked_63 rfl ?_
      obtain ⟨r_12, fa_13, fb_14, ho_17, hf⟩ := bd3_some hf
      refine t_i Y (bkS Y) (r_V (As := [.long r_10, .long r_11.toInt64]) (rest := []) X (c_preS X Y) (cM_tellsPart ho_17) (cwX12_186 X (by decide)) (va_recv X.K Y.1 (q := (RX12, TX12, 15)) (q0 := 0) (ci := 12) rfl rfl) rfl hl.1 (Nat.le_of_ble_eq_true rfl) rfl dX12_marked_64 ⟨Nat.zero_le _, Nat.zero_le _⟩) (fun H locs Y => ?_)
      refine lv_istore (lv' := [(4, .int r_12), (3, .int x3_6), (0, .ref (Am 0)), (1, .int x1), (2, .int x2)]) hx hb dX12_marked_67 hl (by decide) rfl (fun ls hl => ?_)
      refine lv_aload_n hx hb dX12_marked_69 rfl (lv_at hl 2 rfl) ?_
      refine gfX12_7 X Y (v := .ref (Am 1)) 0 rfl rfl dX12_marked_70 ?_
      refine lv_bipush (v := (46 : Int32)) hx hb dX12_marked_73 (by decide) ?_
      refine lv_iload_n hx hb dX12_marked_75 rfl (lv_at hl 3 rfl) ?_
      refine lv_iadd hx hb dX12_marked_76 ?_
      refine lv_iload_n hx hb dX12_marked_77 rfl (lv_at hl 1 rfl) ?_
      obtain ⟨hi_16, hf⟩ := ck_some hf
      obtain ⟨w_15, e_w_15⟩ : ∃ z : Nat → Int32, z = (upd w_7 ((46 : Int32) + x1).toNatClampNeg x3_6) := ⟨_, rfl⟩
      have hf := bnd_eq hf e_w_15
      refine x_iast X Y 1 rfl rfl hi_16 (ws' := (WM Γ Am w_15 kp tx td rf fa_13 fb_14 ap sp iw ig nu lst lwo hh)) (by subst e_w_15; rfl) dX12_marked_78 (fun H locs Y => ?_)
      refine lv_iload hx hb dX12_marked_79 (lv_at hl 0 rfl) ?_
      obtain ⟨e90, e91, e92, e93, e94⟩ := sj5 hf
      subst e90
      subst e91
      subst e92
      subst e93
      subst e94
      exact x_iret X Y dX12_marked_81
    · have hf := ite_t hf c_4
      exact bM_marked_20 X hf Y (lv_sub hl [0] rfl)
theorem cM_marked {l : Launch} {Γ : Gm} {Am : Nat → Nat} {w : Nat → Int32} {kp : Nat → Int32} {tx : Nat → Int32} {td : Int32} {rf : Nat → Int32} {fa : Int64} {fb : Int64} {ap : Int32} {sp : Int32} {iw : Int32} {ig : Int32} {nu : Nat → Int32} {lst : Int32} {lwo : Int32} {hh : Int64} {w_z : Nat → Int32} {rf_z : Nat → Int32} {fa_z : Int64} {fb_z : Int64} {r0 : Int32} {x1 : Int32} {x2 : Int32} (h : M_marked x1 x2 w rf fa fb = some (r0, w_z, rf_z, fa_z, fb_z)) : CI l Γ yX12_marked (Cond.code yX12_marked cX12_marked 5 (some .int) :: GW) rmM_marked [.ref (Am 0), .int x1, .int x2] (WM Γ Am w kp tx td rf fa fb ap sp iw ig nu lst lwo hh) (WM Γ Am w_z kp tx td rf_z fa_z fb_z ap sp iw ig nu lst lwo hh) r0 := ofBody (Qc := QcI Γ _ _ r0) (by decide) (Nat.le_of_ble_eq_true rfl) (fun p e s m below meth c ls _ X Y hl => bM_marked_e X h Y hl)
def rmM_seen : Room := { frames := 1, cells := 0, slots := 0, locals := 25 }
def M_seen_36 (w : Nat → Int32) (rf : Nat → Int32) : Option (Int32 × (Nat → Int32) × (Nat → Int32)) := bd2 (M_bad rf) (fun (r_1 : Int32) (rf_2 : Nat → Int32) => some (r_1, w, rf_2))
set_option maxHeartbeats 4000000 in
set_option maxRecDepth 100000 in
theorem bM_seen_36 {Am : Nat → Nat} {w : Nat → Int32} {kp : Nat → Int32} {tx : Nat → Int32} {td : Int32} {rf : Nat → Int32} {fa : Int64} {fb : Int64} {ap : Int32} {sp : Int32} {iw : Int32} {ig : Int32} {nu : Nat → Int32} {lst : Int32} {lwo : Int32} {hh : Int64} {w_z : Nat → Int32} {rf_z : Nat → Int32} {r0 : Int32} (X : Cx Γ p s m args meth c RX12 cX12_seen 5 (some .int) w0) (hf : M_seen_36 w rf = some (r0, w_z, rf_z)) (Y : Wd Γ w0 s (WM Γ Am w kp tx td rf fa fb ap sp iw ig nu lst lwo hh) H locs) (hl : lv_has ls 5 [(0, .ref (Am 0))]) : W p l e rmM_seen s m args below meth c H locs 0 0 (EI Γ below args s w0 (WM Γ Am w_z kp tx td rf_z fa fb ap sp iw ig nu lst lwo hh) r0) (F0 m 36 ls []) := by
  have hx := X.1
  have hb := X.2.1
  refine lv_aload_n hx hb dX12_seen_36 rfl (lv_at hl 0 rfl) ?_
  obtain ⟨r_1, rf_2, ho_3, hf⟩ := bd2_some hf
  refine t_i Y (bkS Y) (r_V (As := []) (rest := []) X (c_preS X Y) (cM_bad ho_3) (cwX12_44 X (by decide)) (va_recv X.K Y.1 (q := (RX12, TX12, 15)) (q0 := 0) (ci := 12) rfl rfl) rfl hl.1 (Nat.le_of_ble_eq_true rfl) rfl dX12_seen_37 ⟨Nat.zero_le _, Nat.zero_le _⟩) (fun H locs Y => ?_)
  obtain ⟨e90, e91, e92⟩ := sj3 hf
  subst e90
  subst e91
  subst e92
  exact x_iret X Y dX12_seen_40
def M_seen (x1 : Int32) (x2 : Int32) (x3 : Int32) (w : Nat → Int32) (rf : Nat → Int32) : Option (Int32 × (Nat → Int32) × (Nat → Int32)) := bd1 (M_in x1.toInt64 (1 : Int64) (40 : Int64)) (fun (r_1 : Int32) => if r_1 = 0 then (M_seen_36 w rf) else (bd1 (M_in x2.toInt64 (0 : Int64) (60 : Int64)) (fun (r_3 : Int32) => if r_3 = 0 then (M_seen_36 w rf) else (bd1 (M_in x3.toInt64 (0 : Int64) (3 : Int64)) (fun (r_5 : Int32) => if r_5 = 0 then (M_seen_36 w rf) else (if (w 3) = (6 : Int32) then (bd2 (M_full rf) (fun (r_17 : Int32) (rf_18 : Nat → Int32) => some (r_17, w, rf_18))) else (bnd ((54 : Int32) + ((3 : Int32) * (w 3))) (fun (x4_8 : Int32) => ck (inb x4_8 320) (bnd (upd w x4_8.toNatClampNeg x1) (fun (w_9 : Nat → Int32) => ck (inb (x4_8 + (1 : Int32)) 320) (bnd (upd w_9 (x4_8 + (1 : Int32)).toNatClampNeg x2) (fun (w_11 : Nat → Int32) => ck (inb (x4_8 + (2 : Int32)) 320) (bnd (upd w_11 (x4_8 + (2 : Int32)).toNatClampNeg x3) (fun (w_13 : Nat → Int32) => bnd ((w_13 3) + (1 : Int32)) (fun (v_15 : Int32) => bnd (upd w_13 3 v_15) (fun (w_16 : Nat → Int32) => some ((w_16 3), w_16, rf)))))))))))))))))
set_option maxHeartbeats 4000000 in
set_option maxRecDepth 100000 in
theorem bM_seen_e {Am : Nat → Nat} {w : Nat → Int32} {kp : Nat → Int32} {tx : Nat → Int32} {td : Int32} {rf : Nat → Int32} {fa : Int64} {fb : Int64} {ap : Int32} {sp : Int32} {iw : Int32} {ig : Int32} {nu : Nat → Int32} {lst : Int32} {lwo : Int32} {hh : Int64} {w_z : Nat → Int32} {rf_z : Nat → Int32} {r0 : Int32} {x1 : Int32} {x2 : Int32} {x3 : Int32} (X : Cx Γ p s m args meth c RX12 cX12_seen 5 (some .int) w0) (hf : M_seen x1 x2 x3 w rf = some (r0, w_z, rf_z)) (Y : Wd Γ w0 s (WM Γ Am w kp tx td rf fa fb ap sp iw ig nu lst lwo hh) H locs) (hl : lv_has ls 5 [(0, .ref (Am 0)), (1, .int x1), (2, .int x2), (3, .int x3)]) : W p l e rmM_seen s m args below meth c H locs 0 0 (EI Γ below args s w0 (WM Γ Am w_z kp tx td rf_z fa fb ap sp iw ig nu lst lwo hh) r0) (F0 m 0 ls []) := by
  have hx := X.1
  have hb := X.2.1
  refine lv_iload_n hx hb dX12_seen_0 rfl (lv_at hl 1 rfl) ?_
  refine lv_i2l (v := x1.toInt64) hx hb dX12_seen_1 rfl ?_
  refine lv_lconst (v := (1 : Int64)) hx hb dX12_seen_2 (by decide) ?_
  refine lv_ldc2 (v := (40 : Int64)) hx hb X.2.2.2.1 (X.2.2.2.2.1 _ kw19) dX12_seen_3 ?_
  obtain ⟨r_1, ho_22, hf⟩ := bd1_some hf
  refine t_i Y (bk0 Y) (r_S (As := [.long x1.toInt64, .long (1 : Int64), .long (40 : Int64)]) (rest := []) X (c_pre0 X Y) (cM_in ho_22) (cwX12_34 X (by decide)) rfl hl.1 (Nat.le_of_ble_eq_true rfl) rfl dX12_seen_6 ⟨Nat.zero_le _, Nat.zero_le _⟩) (fun H locs Y => ?_)
  refine lv_if_eq (tgt := 36) hx hb dX12_seen_9 (by decide) (fun c_2 => ?_) (fun c_2 => ?_)
  · have hf := ite_t hf c_2
    exact bM_seen_36 X hf Y (lv_sub hl [0] rfl)
  · have hf := ite_f hf c_2
    refine lv_iload_n hx hb dX12_seen_12 rfl (lv_at hl 2 rfl) ?_
    refine lv_i2l (v := x2.toInt64) hx hb dX12_seen_13 rfl ?_
    refine lv_lconst (v := (0 : Int64)) hx hb dX12_seen_14 (by decide) ?_
    refine lv_ldc2 (v := (60 : Int64)) hx hb X.2.2.2.1 (X.2.2.2.2.1 _ kw20) dX12_seen_15 ?_
    obtain ⟨r_3, ho_21, hf⟩ := bd1_some hf
    refine t_i Y (bk0 Y) (r_S (As := [.long x2.toInt64, .long (0 : Int64), .long (60 : Int64)]) (rest := []) X (c_pre0 X Y) (cM_in ho_21) (cwX12_34 X (by decide)) rfl hl.1 (Nat.le_of_ble_eq_true rfl) rfl dX12_seen_18 ⟨Nat.zero_le _, Nat.zero_le _⟩) (fun H locs Y => ?_)
    refine lv_if_eq (tgt := 36) hx hb dX12_seen_21 (by decide) (fun c_4 => ?_) (fun c_4 => ?_)
    · have hf := ite_t hf c_4
      exact bM_seen_36 X hf Y (lv_sub hl [0] rfl)
    · have hf := ite_f hf c_4
      refine lv_iload_n hx hb dX12_seen_24 rfl (lv_at hl 3 rfl) ?_
      refine lv_i2l (v := x3.toInt64) hx hb dX12_seen_25 rfl ?_
      refine lv_lconst (v := (0 : Int64)) hx hb dX12_seen_26 (by decide) ?_
      refine lv_ldc2 (v := (3 : Int64)) hx hb X.2.2.2.1 (X.2.2.2.2.1 _ kw6) dX12_seen_27 ?_
      obtain ⟨r_5, ho_20, hf⟩ := bd1_some hf
      refine t_i Y (bk0 Y) (r_S (As := [.long x3.toInt64, .long (0 : Int64), .long (3 : Int64)]) (rest := []) X (c_pre0 X Y) (cM_in ho_20) (cwX12_34 X (by decide)) rfl hl.1 (Nat.le_of_ble_eq_true rfl) rfl dX12_seen_30 ⟨Nat.zero_le _, Nat.zero_le _⟩) (fun H locs Y => ?_)
      refine lv_if_ne (tgt := 41) hx hb dX12_seen_33 (by decide) (fun c_6 => ?_) (fun c_6 => ?_)
      · have hf := ite_f hf c_6
        refine lv_aload_n hx hb dX12_seen_41 rfl (lv_at hl 0 rfl) ?_
        refine gfX12_7 X Y (v := .ref (Am 1)) 0 rfl rfl dX12_seen_42 ?_
        refine lv_iconst (v := (3 : Int32)) hx hb dX12_seen_45 (by decide) ?_
        refine x_iald X Y 1 rfl (j := 3) rfl rfl dX12_seen_46 ?_
        refine lv_bipush (v := (6 : Int32)) hx hb dX12_seen_47 (by decide) ?_
        refine lv_icmp_ne (tgt := 57) hx hb dX12_seen_49 (by decide) (fun c_7 => ?_) (fun c_7 => ?_)
        · have hf := ite_f hf c_7
          refine lv_bipush (v := (54 : Int32)) hx hb dX12_seen_57 (by decide) ?_
          refine lv_iconst (v := (3 : Int32)) hx hb dX12_seen_59 (by decide) ?_
          refine lv_aload_n hx hb dX12_seen_60 rfl (lv_at hl 0 rfl) ?_
          refine gfX12_7 X Y (v := .ref (Am 1)) 0 rfl rfl dX12_seen_61 ?_
          refine lv_iconst (v := (3 : Int32)) hx hb dX12_seen_64 (by decide) ?_
          refine x_iald X Y 1 rfl (j := 3) rfl rfl dX12_seen_65 ?_
          refine lv_imul hx hb dX12_seen_66 ?_
          refine lv_iadd hx hb dX12_seen_67 ?_
          refine lv_topi (fun x4_8 e_x4_8 => ?_)
          have hf := bnd_eq hf e_x4_8
          refine lv_istore (lv' := [(4, .int x4_8), (0, .ref (Am 0)), (1, .int x1), (2, .int x2), (3, .int x3)]) hx hb dX12_seen_68 hl (by decide) rfl (fun ls hl => ?_)
          refine lv_aload_n hx hb dX12_seen_70 rfl (lv_at hl 1 rfl) ?_
          refine gfX12_7 X Y (v := .ref (Am 1)) 0 rfl rfl dX12_seen_71 ?_
          refine lv_iload hx hb dX12_seen_74 (lv_at hl 0 rfl) ?_
          refine lv_iload_n hx hb dX12_seen_76 rfl (lv_at hl 2 rfl) ?_
          obtain ⟨hi_10, hf⟩ := ck_some hf
          obtain ⟨w_9, e_w_9⟩ : ∃ z : Nat → Int32, z = (upd w x4_8.toNatClampNeg x1) := ⟨_, rfl⟩
          have hf := bnd_eq hf e_w_9
          refine x_iast X Y 1 rfl rfl hi_10 (ws' := (WM Γ Am w_9 kp tx td rf fa fb ap sp iw ig nu lst lwo hh)) (by subst e_w_9; rfl) dX12_seen_77 (fun H locs Y => ?_)
          refine lv_aload_n hx hb dX12_seen_78 rfl (lv_at hl 1 rfl) ?_
          refine gfX12_7 X Y (v := .ref (Am 1)) 0 rfl rfl dX12_seen_79 ?_
          refine lv_iload hx hb dX12_seen_82 (lv_at hl 0 rfl) ?_
          refine lv_iconst (v := (1 : Int32)) hx hb dX12_seen_84 (by decide) ?_
          refine lv_iadd hx hb dX12_seen_85 ?_
          refine lv_iload_n hx hb dX12_seen_86 rfl (lv_at hl 3 rfl) ?_
          obtain ⟨hi_12, hf⟩ := ck_some hf
          obtain ⟨w_11, e_w_11⟩ : ∃ z : Nat → Int32, z = (upd w_9 (x4_8 + (1 : Int32)).toNatClampNeg x2) := ⟨_, rfl⟩
          have hf := bnd_eq hf e_w_11
          refine x_iast X Y 1 rfl rfl hi_12 (ws' := (WM Γ Am w_11 kp tx td rf fa fb ap sp iw ig nu lst lwo hh)) (by subst e_w_11; rfl) dX12_seen_87 (fun H locs Y => ?_)
          refine lv_aload_n hx hb dX12_seen_88 rfl (lv_at hl 1 rfl) ?_
          refine gfX12_7 X Y (v := .ref (Am 1)) 0 rfl rfl dX12_seen_89 ?_
          refine lv_iload hx hb dX12_seen_92 (lv_at hl 0 rfl) ?_
          refine lv_iconst (v := (2 : Int32)) hx hb dX12_seen_94 (by decide) ?_
          refine lv_iadd hx hb dX12_seen_95 ?_
          refine lv_iload_n hx hb dX12_seen_96 rfl (lv_at hl 4 rfl) ?_
          obtain ⟨hi_14, hf⟩ := ck_some hf
          obtain ⟨w_13, e_w_13⟩ : ∃ z : Nat → Int32, z = (upd w_11 (x4_8 + (2 : Int32)).toNatClampNeg x3) := ⟨_, rfl⟩
          have hf := bnd_eq hf e_w_13
          refine x_iast X Y 1 rfl rfl hi_14 (ws' := (WM Γ Am w_13 kp tx td rf fa fb ap sp iw ig nu lst lwo hh)) (by subst e_w_13; rfl) dX12_seen_97 (fun H locs Y => ?_)
          refine lv_aload_n hx hb dX12_seen_98 rfl (lv_at hl 1 rfl) ?_
          refine gfX12_7 X Y (v := .ref (Am 1)) 0 rfl rfl dX12_seen_99 ?_
          refine lv_iconst (v := (3 : Int32)) hx hb dX12_seen_102 (by decide) ?_
          refine lv_dup2_11 hx hb dX12_seen_103 rfl rfl ?_
          refine x_iald X Y 1 rfl (j := 3) rfl rfl dX12_seen_104 ?_
          refine lv_iconst (v := (1 : Int32)) hx hb dX12_seen_105 (by decide) ?_
          refine lv_iadd hx hb dX12_seen_106 ?_
          refine lv_topi (fun v_15 e_v_15 => ?_)
          have hf := bnd_eq hf e_v_15
          obtain ⟨w_16, e_w_16⟩ : ∃ z : Nat → Int32, z = (upd w_13 3 v_15) := ⟨_, rfl⟩
          have hf := bnd_eq hf e_w_16
          refine x_iast X Y 1 rfl (j := 3) rfl rfl (ws' := (WM Γ Am w_16 kp tx td rf fa fb ap sp iw ig nu lst lwo hh)) (by subst e_w_16; rfl) dX12_seen_107 (fun H locs Y => ?_)
          refine lv_aload_n hx hb dX12_seen_108 rfl (lv_at hl 1 rfl) ?_
          refine gfX12_7 X Y (v := .ref (Am 1)) 0 rfl rfl dX12_seen_109 ?_
          refine lv_iconst (v := (3 : Int32)) hx hb dX12_seen_112 (by decide) ?_
          refine x_iald X Y 1 rfl (j := 3) rfl rfl dX12_seen_113 ?_
          obtain ⟨e90, e91, e92⟩ := sj3 hf
          subst e90
          subst e91
          subst e92
          exact x_iret X Y dX12_seen_114
        · have hf := ite_t hf c_7
          refine lv_aload_n hx hb dX12_seen_52 rfl (lv_at hl 0 rfl) ?_
          obtain ⟨r_17, rf_18, ho_19, hf⟩ := bd2_some hf
          refine t_i Y (bkS Y) (r_V (As := []) (rest := []) X (c_preS X Y) (cM_full ho_19) (cwX12_60 X (by decide)) (va_recv X.K Y.1 (q := (RX12, TX12, 15)) (q0 := 0) (ci := 12) rfl rfl) rfl hl.1 (Nat.le_of_ble_eq_true rfl) rfl dX12_seen_53 ⟨Nat.zero_le _, Nat.zero_le _⟩) (fun H locs Y => ?_)
          obtain ⟨e90, e91, e92⟩ := sj3 hf
          subst e90
          subst e91
          subst e92
          exact x_iret X Y dX12_seen_56
      · have hf := ite_t hf c_6
        exact bM_seen_36 X hf Y (lv_sub hl [0] rfl)
theorem cM_seen {l : Launch} {Γ : Gm} {Am : Nat → Nat} {w : Nat → Int32} {kp : Nat → Int32} {tx : Nat → Int32} {td : Int32} {rf : Nat → Int32} {fa : Int64} {fb : Int64} {ap : Int32} {sp : Int32} {iw : Int32} {ig : Int32} {nu : Nat → Int32} {lst : Int32} {lwo : Int32} {hh : Int64} {w_z : Nat → Int32} {rf_z : Nat → Int32} {r0 : Int32} {x1 : Int32} {x2 : Int32} {x3 : Int32} (h : M_seen x1 x2 x3 w rf = some (r0, w_z, rf_z)) : CI l Γ yX12_seen (Cond.code yX12_seen cX12_seen 5 (some .int) :: GW) rmM_seen [.ref (Am 0), .int x1, .int x2, .int x3] (WM Γ Am w kp tx td rf fa fb ap sp iw ig nu lst lwo hh) (WM Γ Am w_z kp tx td rf_z fa fb ap sp iw ig nu lst lwo hh) r0 := ofBody (Qc := QcI Γ _ _ r0) (by decide) (Nat.le_of_ble_eq_true rfl) (fun p e s m below meth c ls _ X Y hl => bM_seen_e X h Y hl)
def rmM_forget : Room := { frames := 0, cells := 0, slots := 0, locals := 0 }
def M_forget (w : Nat → Int32) : Option (Int32 × (Nat → Int32)) := bnd (w 3) (fun (x1_1 : Int32) => bnd (upd w 3 (0 : Int32)) (fun (w_2 : Nat → Int32) => some (x1_1, w_2)))
set_option maxHeartbeats 4000000 in
set_option maxRecDepth 100000 in
theorem bM_forget_e {Am : Nat → Nat} {w : Nat → Int32} {kp : Nat → Int32} {tx : Nat → Int32} {td : Int32} {rf : Nat → Int32} {fa : Int64} {fb : Int64} {ap : Int32} {sp : Int32} {iw : Int32} {ig : Int32} {nu : Nat → Int32} {lst : Int32} {lwo : Int32} {hh : Int64} {w_z : Nat → Int32} {r0 : Int32} (X : Cx Γ p s m args meth c RX12 cX12_forget 2 (some .int) w0) (hf : M_forget w = some (r0, w_z)) (Y : Wd Γ w0 s (WM Γ Am w kp tx td rf fa fb ap sp iw ig nu lst lwo hh) H locs) (hl : lv_has ls 2 [(0, .ref (Am 0))]) : W p l e rmM_forget s m args below meth c H locs 0 0 (EI Γ below args s w0 (WM Γ Am w_z kp tx td rf fa fb ap sp iw ig nu lst lwo hh) r0) (F0 m 0 ls []) := by
  have hx := X.1
  have hb := X.2.1
  refine lv_aload_n hx hb dX12_forget_0 rfl (lv_at hl 0 rfl) ?_
  refine gfX12_7 X Y (v := .ref (Am 1)) 0 rfl rfl dX12_forget_1 ?_
  refine lv_iconst (v := (3 : Int32)) hx hb dX12_forget_4 (by decide) ?_
  refine x_iald X Y 1 rfl (j := 3) rfl rfl dX12_forget_5 ?_
  refine lv_topi (fun x1_1 e_x1_1 => ?_)
  have hf := bnd_eq hf e_x1_1
  refine lv_istore_n (lv' := [(1, .int x1_1), (0, .ref (Am 0))]) hx hb dX12_forget_6 rfl hl (by decide) rfl (fun ls hl => ?_)
  refine lv_aload_n hx hb dX12_forget_7 rfl (lv_at hl 1 rfl) ?_
  refine gfX12_7 X Y (v := .ref (Am 1)) 0 rfl rfl dX12_forget_8 ?_
  refine lv_iconst (v := (3 : Int32)) hx hb dX12_forget_11 (by decide) ?_
  refine lv_iconst (v := (0 : Int32)) hx hb dX12_forget_12 (by decide) ?_
  obtain ⟨w_2, e_w_2⟩ : ∃ z : Nat → Int32, z = (upd w 3 (0 : Int32)) := ⟨_, rfl⟩
  have hf := bnd_eq hf e_w_2
  refine x_iast X Y 1 rfl (j := 3) rfl rfl (ws' := (WM Γ Am w_2 kp tx td rf fa fb ap sp iw ig nu lst lwo hh)) (by subst e_w_2; rfl) dX12_forget_13 (fun H locs Y => ?_)
  refine lv_iload_n hx hb dX12_forget_14 rfl (lv_at hl 0 rfl) ?_
  obtain ⟨e90, e91⟩ := sj2 hf
  subst e90
  subst e91
  exact x_iret X Y dX12_forget_15
theorem cM_forget {l : Launch} {Γ : Gm} {Am : Nat → Nat} {w : Nat → Int32} {kp : Nat → Int32} {tx : Nat → Int32} {td : Int32} {rf : Nat → Int32} {fa : Int64} {fb : Int64} {ap : Int32} {sp : Int32} {iw : Int32} {ig : Int32} {nu : Nat → Int32} {lst : Int32} {lwo : Int32} {hh : Int64} {w_z : Nat → Int32} {r0 : Int32} (h : M_forget w = some (r0, w_z)) : CI l Γ yX12_forget (Cond.code yX12_forget cX12_forget 2 (some .int) :: GW) rmM_forget [.ref (Am 0)] (WM Γ Am w kp tx td rf fa fb ap sp iw ig nu lst lwo hh) (WM Γ Am w_z kp tx td rf fa fb ap sp iw ig nu lst lwo hh) r0 := ofBody (Qc := QcI Γ _ _ r0) (by decide) (Nat.le_of_ble_eq_true rfl) (fun p e s m below meth c ls _ X Y hl => bM_forget_e X h Y hl)
def rmM_barrel : Room := { frames := 1, cells := 0, slots := 0, locals := 20 }
def M_barrel_116 (rc7 : Int32 → Int32 → (Nat → Int32) → Option (Int32)) (rc19 : Int32 → Int32 → Int32 → (Nat → Int32) → Option (Int32)) (x1 : Int32) (x2 : Int32) (x3 : Int32) (y0 : Int32) (w : Nat → Int32) : Option (Int32) := if y0 = 0 then (bnd (x1 &&& (((1 : Int32) <<< (x2 &&& 31)) ^^^ (-1 : Int32))) (fun (x1_2 : Int32) => bnd (x3 + (1 : Int32)) (fun (x3_3 : Int32) => rc19 x1_2 x2 x3_3 w))) else (bnd (x1 &&& (255 : Int32)) (fun (x1_4 : Int32) => bnd (x3 + (1 : Int32)) (fun (x3_5 : Int32) => rc19 x1_4 x2 x3_5 w)))
set_option maxHeartbeats 4000000 in
set_option maxRecDepth 100000 in
theorem bM_barrel_116 {Am : Nat → Nat} {w : Nat → Int32} {kp : Nat → Int32} {tx : Nat → Int32} {td : Int32} {rf : Nat → Int32} {fa : Int64} {fb : Int64} {ap : Int32} {sp : Int32} {iw : Int32} {ig : Int32} {nu : Nat → Int32} {lst : Int32} {lwo : Int32} {hh : Int64} {r0 : Int32} {x1 : Int32} {x2 : Int32} {x3 : Int32} {y0 : Int32} {rc7 : Int32 → Int32 → (Nat → Int32) → Option (Int32)} {rc19 : Int32 → Int32 → Int32 → (Nat → Int32) → Option (Int32)} (X : Cx Γ p s m args meth c RX12 cX12_barrel 6 (some .int) w0) (h7 : ∀ (x1 : Int32) (x2 : Int32) (w : Nat → Int32), rc7 x1 x2 w = some r0 → ∀ (H : Heap) (locs : List Loc) (ls : Array Slot), Wd Γ w0 s (WM Γ Am w kp tx td rf fa fb ap sp iw ig nu lst lwo hh) H locs → lv_has ls 6 [(0, .ref (Am 0)), (1, .int x1), (2, .int x2)] → W p l e rmM_barrel s m args below meth c H locs 0 0 (EI Γ below args s w0 (WM Γ Am w kp tx td rf fa fb ap sp iw ig nu lst lwo hh) r0) (F0 m 7 ls [])) (h19 : ∀ (x1 : Int32) (x2 : Int32) (x3 : Int32) (w : Nat → Int32), rc19 x1 x2 x3 w = some r0 → ∀ (H : Heap) (locs : List Loc) (ls : Array Slot), Wd Γ w0 s (WM Γ Am w kp tx td rf fa fb ap sp iw ig nu lst lwo hh) H locs → lv_has ls 6 [(0, .ref (Am 0)), (1, .int x1), (2, .int x2), (3, .int x3)] → W p l e rmM_barrel s m args below meth c H locs 0 0 (EI Γ below args s w0 (WM Γ Am w kp tx td rf fa fb ap sp iw ig nu lst lwo hh) r0) (F0 m 19 ls [])) (hf : M_barrel_116 rc7 rc19 x1 x2 x3 y0 w = some r0) (Y : Wd Γ w0 s (WM Γ Am w kp tx td rf fa fb ap sp iw ig nu lst lwo hh) H locs) (hl : lv_has ls 6 [(0, .ref (Am 0)), (1, .int x1), (2, .int x2), (3, .int x3)]) : W p l e rmM_barrel s m args below meth c H locs 0 0 (EI Γ below args s w0 (WM Γ Am w kp tx td rf fa fb ap sp iw ig nu lst lwo hh) r0) (F0 m 116 ls [.int y0]) := by
  have hx := X.1
  have hb := X.2.1
  refine lv_istore (lv' := [(5, .int y0), (0, .ref (Am 0)), (1, .int x1), (2, .int x2), (3, .int x3)]) hx hb dX12_barrel_116 hl (by decide) rfl (fun ls hl => ?_)
  refine lv_iload_n hx hb dX12_barrel_118 rfl (lv_at hl 2 rfl) ?_
  refine lv_iload hx hb dX12_barrel_119 (lv_at hl 0 rfl) ?_
  refine lv_if_eq (tgt := 130) hx hb dX12_barrel_121 (by decide) (fun c_1 => ?_) (fun c_1 => ?_)
  · have hf := ite_t hf c_1
    refine lv_iconst (v := (1 : Int32)) hx hb dX12_barrel_130 (by decide) ?_
    refine lv_iload_n hx hb dX12_barrel_131 rfl (lv_at hl 3 rfl) ?_
    refine lv_ishl hx hb dX12_barrel_132 ?_
    refine lv_iconst (v := (-1 : Int32)) hx hb dX12_barrel_133 (by decide) ?_
    refine lv_ixor hx hb dX12_barrel_134 ?_
    refine lv_iand hx hb dX12_barrel_135 ?_
    refine lv_topi (fun x1_2 e_x1_2 => ?_)
    have hf := bnd_eq hf e_x1_2
    refine lv_istore_n (lv' := [(1, .int x1_2), (5, .int y0), (0, .ref (Am 0)), (2, .int x2), (3, .int x3)]) hx hb dX12_barrel_136 rfl hl (by decide) rfl (fun ls hl => ?_)
    obtain ⟨x3_3, e_x3_3⟩ : ∃ z : Int32, z = (x3 + (1 : Int32)) := ⟨_, rfl⟩
    have hf := bnd_eq hf e_x3_3
    refine lv_iinc (v := x3_3) (lv' := [(3, .int x3_3), (1, .int x1_2), (5, .int y0), (0, .ref (Am 0)), (2, .int x2)]) hx hb dX12_barrel_137 hl (k := 4) rfl (by rw [e_x3_3]; rfl) (by decide) rfl (fun ls hl => ?_)
    refine lv_goto (tgt := 19) hx hb dX12_barrel_140 (by decide) ?_
    exact h19 _ _ _ _ hf _ _ _ Y (lv_sub hl [3, 1, 4, 0] rfl)
  · have hf := ite_f hf c_1
    refine lv_sipush (v := (255 : Int32)) hx hb dX12_barrel_124 (by decide) ?_
    refine lv_goto (tgt := 135) hx hb dX12_barrel_127 (by decide) ?_
    refine lv_iand hx hb dX12_barrel_135 ?_
    refine lv_topi (fun x1_4 e_x1_4 => ?_)
    have hf := bnd_eq hf e_x1_4
    refine lv_istore_n (lv' := [(1, .int x1_4), (5, .int y0), (0, .ref (Am 0)), (2, .int x2), (3, .int x3)]) hx hb dX12_barrel_136 rfl hl (by decide) rfl (fun ls hl => ?_)
    obtain ⟨x3_5, e_x3_5⟩ : ∃ z : Int32, z = (x3 + (1 : Int32)) := ⟨_, rfl⟩
    have hf := bnd_eq hf e_x3_5
    refine lv_iinc (v := x3_5) (lv' := [(3, .int x3_5), (1, .int x1_4), (5, .int y0), (0, .ref (Am 0)), (2, .int x2)]) hx hb dX12_barrel_137 hl (k := 4) rfl (by rw [e_x3_5]; rfl) (by decide) rfl (fun ls hl => ?_)
    refine lv_goto (tgt := 19) hx hb dX12_barrel_140 (by decide) ?_
    exact h19 _ _ _ _ hf _ _ _ Y (lv_sub hl [3, 1, 4, 0] rfl)
def M_barrel_111 (rc7 : Int32 → Int32 → (Nat → Int32) → Option (Int32)) (rc19 : Int32 → Int32 → Int32 → (Nat → Int32) → Option (Int32)) (x1 : Int32) (x2 : Int32) (x3 : Int32) (w : Nat → Int32) : Option (Int32) := M_barrel_116 rc7 rc19 x1 x2 x3 (1 : Int32) w
set_option maxHeartbeats 4000000 in
set_option maxRecDepth 100000 in
theorem bM_barrel_111 {Am : Nat → Nat} {w : Nat → Int32} {kp : Nat → Int32} {tx : Nat → Int32} {td : Int32} {rf : Nat → Int32} {fa : Int64} {fb : Int64} {ap : Int32} {sp : Int32} {iw : Int32} {ig : Int32} {nu : Nat → Int32} {lst : Int32} {lwo : Int32} {hh : Int64} {r0 : Int32} {x1 : Int32} {x2 : Int32} {x3 : Int32} {rc7 : Int32 → Int32 → (Nat → Int32) → Option (Int32)} {rc19 : Int32 → Int32 → Int32 → (Nat → Int32) → Option (Int32)} (X : Cx Γ p s m args meth c RX12 cX12_barrel 6 (some .int) w0) (h7 : ∀ (x1 : Int32) (x2 : Int32) (w : Nat → Int32), rc7 x1 x2 w = some r0 → ∀ (H : Heap) (locs : List Loc) (ls : Array Slot), Wd Γ w0 s (WM Γ Am w kp tx td rf fa fb ap sp iw ig nu lst lwo hh) H locs → lv_has ls 6 [(0, .ref (Am 0)), (1, .int x1), (2, .int x2)] → W p l e rmM_barrel s m args below meth c H locs 0 0 (EI Γ below args s w0 (WM Γ Am w kp tx td rf fa fb ap sp iw ig nu lst lwo hh) r0) (F0 m 7 ls [])) (h19 : ∀ (x1 : Int32) (x2 : Int32) (x3 : Int32) (w : Nat → Int32), rc19 x1 x2 x3 w = some r0 → ∀ (H : Heap) (locs : List Loc) (ls : Array Slot), Wd Γ w0 s (WM Γ Am w kp tx td rf fa fb ap sp iw ig nu lst lwo hh) H locs → lv_has ls 6 [(0, .ref (Am 0)), (1, .int x1), (2, .int x2), (3, .int x3)] → W p l e rmM_barrel s m args below meth c H locs 0 0 (EI Γ below args s w0 (WM Γ Am w kp tx td rf fa fb ap sp iw ig nu lst lwo hh) r0) (F0 m 19 ls [])) (hf : M_barrel_111 rc7 rc19 x1 x2 x3 w = some r0) (Y : Wd Γ w0 s (WM Γ Am w kp tx td rf fa fb ap sp iw ig nu lst lwo hh) H locs) (hl : lv_has ls 6 [(0, .ref (Am 0)), (1, .int x1), (2, .int x2), (3, .int x3)]) : W p l e rmM_barrel s m args below meth c H locs 0 0 (EI Γ below args s w0 (WM Γ Am w kp tx td rf fa fb ap sp iw ig nu lst lwo hh) r0) (F0 m 111 ls []) := by
  have hx := X.1
  have hb := X.2.1
  refine lv_iconst (v := (1 : Int32)) hx hb dX12_barrel_111 (by decide) ?_
  refine lv_goto (tgt := 116) hx hb dX12_barrel_112 (by decide) ?_
  exact bM_barrel_116 X h7 h19 hf Y (lv_sub hl [0, 1, 2, 3] rfl)
def M_barrel_115 (rc7 : Int32 → Int32 → (Nat → Int32) → Option (Int32)) (rc19 : Int32 → Int32 → Int32 → (Nat → Int32) → Option (Int32)) (x1 : Int32) (x2 : Int32) (x3 : Int32) (w : Nat → Int32) : Option (Int32) := M_barrel_116 rc7 rc19 x1 x2 x3 (0 : Int32) w
set_option maxHeartbeats 4000000 in
set_option maxRecDepth 100000 in
theorem bM_barrel_115 {Am : Nat → Nat} {w : Nat → Int32} {kp : Nat → Int32} {tx : Nat → Int32} {td : Int32} {rf : Nat → Int32} {fa : Int64} {fb : Int64} {ap : Int32} {sp : Int32} {iw : Int32} {ig : Int32} {nu : Nat → Int32} {lst : Int32} {lwo : Int32} {hh : Int64} {r0 : Int32} {x1 : Int32} {x2 : Int32} {x3 : Int32} {rc7 : Int32 → Int32 → (Nat → Int32) → Option (Int32)} {rc19 : Int32 → Int32 → Int32 → (Nat → Int32) → Option (Int32)} (X : Cx Γ p s m args meth c RX12 cX12_barrel 6 (some .int) w0) (h7 : ∀ (x1 : Int32) (x2 : Int32) (w : Nat → Int32), rc7 x1 x2 w = some r0 → ∀ (H : Heap) (locs : List Loc) (ls : Array Slot), Wd Γ w0 s (WM Γ Am w kp tx td rf fa fb ap sp iw ig nu lst lwo hh) H locs → lv_has ls 6 [(0, .ref (Am 0)), (1, .int x1), (2, .int x2)] → W p l e rmM_barrel s m args below meth c H locs 0 0 (EI Γ below args s w0 (WM Γ Am w kp tx td rf fa fb ap sp iw ig nu lst lwo hh) r0) (F0 m 7 ls [])) (h19 : ∀ (x1 : Int32) (x2 : Int32) (x3 : Int32) (w : Nat → Int32), rc19 x1 x2 x3 w = some r0 → ∀ (H : Heap) (locs : List Loc) (ls : Array Slot), Wd Γ w0 s (WM Γ Am w kp tx td rf fa fb ap sp iw ig nu lst lwo hh) H locs → lv_has ls 6 [(0, .ref (Am 0)), (1, .int x1), (2, .int x2), (3, .int x3)] → W p l e rmM_barrel s m args below meth c H locs 0 0 (EI Γ below args s w0 (WM Γ Am w kp tx td rf fa fb ap sp iw ig nu lst lwo hh) r0) (F0 m 19 ls [])) (hf : M_barrel_115 rc7 rc19 x1 x2 x3 w = some r0) (Y : Wd Γ w0 s (WM Γ Am w kp tx td rf fa fb ap sp iw ig nu lst lwo hh) H locs) (hl : lv_has ls 6 [(0, .ref (Am 0)), (1, .int x1), (2, .int x2), (3, .int x3)]) : W p l e rmM_barrel s m args below meth c H locs 0 0 (EI Γ below args s w0 (WM Γ Am w kp tx td rf fa fb ap sp iw ig nu lst lwo hh) r0) (F0 m 115 ls []) := by
  have hx := X.1
  have hb := X.2.1
  refine lv_iconst (v := (0 : Int32)) hx hb dX12_barrel_115 (by decide) ?_
  exact bM_barrel_116 X h7 h19 hf Y (lv_sub hl [0, 1, 2, 3] rfl)
def M_barrel_19 (rc7 : Int32 → Int32 → (Nat → Int32) → Option (Int32)) (rc19 : Int32 → Int32 → Int32 → (Nat → Int32) → Option (Int32)) (x1 : Int32) (x2 : Int32) (x3 : Int32) (w : Nat → Int32) : Option (Int32) := if (w 3) ≤ x3 then (bnd (x2 + (1 : Int32)) (fun (x2_2 : Int32) => rc7 x1 x2_2 w)) else (bnd ((54 : Int32) + ((3 : Int32) * x3)) (fun (x4_3 : Int32) => ck (inb ((30 : Int32) + x2) 320) (ck (inb x4_3 320) (if (w ((30 : Int32) + x2).toNatClampNeg) < (w x4_3.toNatClampNeg) then (M_barrel_115 rc7 rc19 x1 x2 x3 w) else (ck (inb ((38 : Int32) + x2) 320) (ck (inb (x4_3 + (1 : Int32)) 320) (if (w (x4_3 + (1 : Int32)).toNatClampNeg) < (w ((38 : Int32) + x2).toNatClampNeg) then (M_barrel_115 rc7 rc19 x1 x2 x3 w) else (ck (inb (x4_3 + (2 : Int32)) 320) (if (w (x4_3 + (2 : Int32)).toNatClampNeg) = (3 : Int32) then (M_barrel_111 rc7 rc19 x1 x2 x3 w) else (ck (inb (x4_3 + (2 : Int32)) 320) (ck (inb ((22 : Int32) + x2) 320) (if (w (x4_3 + (2 : Int32)).toNatClampNeg) = (w ((22 : Int32) + x2).toNatClampNeg) then (M_barrel_111 rc7 rc19 x1 x2 x3 w) else (M_barrel_115 rc7 rc19 x1 x2 x3 w)))))))))))))
set_option maxHeartbeats 4000000 in
set_option maxRecDepth 100000 in
theorem bM_barrel_19 {Am : Nat → Nat} {w : Nat → Int32} {kp : Nat → Int32} {tx : Nat → Int32} {td : Int32} {rf : Nat → Int32} {fa : Int64} {fb : Int64} {ap : Int32} {sp : Int32} {iw : Int32} {ig : Int32} {nu : Nat → Int32} {lst : Int32} {lwo : Int32} {hh : Int64} {r0 : Int32} {x1 : Int32} {x2 : Int32} {x3 : Int32} {rc7 : Int32 → Int32 → (Nat → Int32) → Option (Int32)} {rc19 : Int32 → Int32 → Int32 → (Nat → Int32) → Option (Int32)} (X : Cx Γ p s m args meth c RX12 cX12_barrel 6 (some .int) w0) (h7 : ∀ (x1 : Int32) (x2 : Int32) (w : Nat → Int32), rc7 x1 x2 w = some r0 → ∀ (H : Heap) (locs : List Loc) (ls : Array Slot), Wd Γ w0 s (WM Γ Am w kp tx td rf fa fb ap sp iw ig nu lst lwo hh) H locs → lv_has ls 6 [(0, .ref (Am 0)), (1, .int x1), (2, .int x2)] → W p l e rmM_barrel s m args below meth c H locs 0 0 (EI Γ below args s w0 (WM Γ Am w kp tx td rf fa fb ap sp iw ig nu lst lwo hh) r0) (F0 m 7 ls [])) (h19 : ∀ (x1 : Int32) (x2 : Int32) (x3 : Int32) (w : Nat → Int32), rc19 x1 x2 x3 w = some r0 → ∀ (H : Heap) (locs : List Loc) (ls : Array Slot), Wd Γ w0 s (WM Γ Am w kp tx td rf fa fb ap sp iw ig nu lst lwo hh) H locs → lv_has ls 6 [(0, .ref (Am 0)), (1, .int x1), (2, .int x2), (3, .int x3)] → W p l e rmM_barrel s m args below meth c H locs 0 0 (EI Γ below args s w0 (WM Γ Am w kp tx td rf fa fb ap sp iw ig nu lst lwo hh) r0) (F0 m 19 ls [])) (hf : M_barrel_19 rc7 rc19 x1 x2 x3 w = some r0) (Y : Wd Γ w0 s (WM Γ Am w kp tx td rf fa fb ap sp iw ig nu lst lwo hh) H locs) (hl : lv_has ls 6 [(0, .ref (Am 0)), (1, .int x1), (2, .int x2), (3, .int x3)]) : W p l e rmM_barrel s m args below meth c H locs 0 0 (EI Γ below args s w0 (WM Γ Am w kp tx td rf fa fb ap sp iw ig nu lst lwo hh) r0) (F0 m 19 ls []) := by
  have hx := X.1
  have hb := X.2.1
  refine lv_iload_n hx hb dX12_barrel_19 rfl (lv_at hl 3 rfl) ?_
  refine lv_aload_n hx hb dX12_barrel_20 rfl (lv_at hl 0 rfl) ?_
  refine gfX12_7 X Y (v := .ref (Am 1)) 0 rfl rfl dX12_barrel_21 ?_
  refine lv_iconst (v := (3 : Int32)) hx hb dX12_barrel_24 (by decide) ?_
  refine x_iald X Y 1 rfl (j := 3) rfl rfl dX12_barrel_25 ?_
  refine lv_icmp_ge (tgt := 143) hx hb dX12_barrel_26 (by decide) (fun c_1 => ?_) (fun c_1 => ?_)
  · have hf := ite_t hf c_1
    obtain ⟨x2_2, e_x2_2⟩ : ∃ z : Int32, z = (x2 + (1 : Int32)) := ⟨_, rfl⟩
    have hf := bnd_eq hf e_x2_2
    refine lv_iinc (v := x2_2) (lv' := [(2, .int x2_2), (0, .ref (Am 0)), (1, .int x1), (3, .int x3)]) hx hb dX12_barrel_143 hl (k := 2) rfl (by rw [e_x2_2]; rfl) (by decide) rfl (fun ls hl => ?_)
    refine lv_goto (tgt := 7) hx hb dX12_barrel_146 (by decide) ?_
    exact h7 _ _ _ hf _ _ _ Y (lv_sub hl [1, 2, 0] rfl)
  · have hf := ite_f hf c_1
    refine lv_bipush (v := (54 : Int32)) hx hb dX12_barrel_29 (by decide) ?_
    refine lv_iconst (v := (3 : Int32)) hx hb dX12_barrel_31 (by decide) ?_
    refine lv_iload_n hx hb dX12_barrel_32 rfl (lv_at hl 3 rfl) ?_
    refine lv_imul hx hb dX12_barrel_33 ?_
    refine lv_iadd hx hb dX12_barrel_34 ?_
    refine lv_topi (fun x4_3 e_x4_3 => ?_)
    have hf := bnd_eq hf e_x4_3
    refine lv_istore (lv' := [(4, .int x4_3), (0, .ref (Am 0)), (1, .int x1), (2, .int x2), (3, .int x3)]) hx hb dX12_barrel_35 hl (by decide) rfl (fun ls hl => ?_)
    refine lv_aload_n hx hb dX12_barrel_37 rfl (lv_at hl 1 rfl) ?_
    refine gfX12_7 X Y (v := .ref (Am 1)) 0 rfl rfl dX12_barrel_38 ?_
    refine lv_bipush (v := (30 : Int32)) hx hb dX12_barrel_41 (by decide) ?_
    refine lv_iload_n hx hb dX12_barrel_43 rfl (lv_at hl 3 rfl) ?_
    refine lv_iadd hx hb dX12_barrel_44 ?_
    obtain ⟨hi_4, hf⟩ := ck_some hf
    refine x_iald X Y 1 rfl rfl hi_4 dX12_barrel_45 ?_
    refine lv_aload_n hx hb dX12_barrel_46 rfl (lv_at hl 1 rfl) ?_
    refine gfX12_7 X Y (v := .ref (Am 1)) 0 rfl rfl dX12_barrel_47 ?_
    refine lv_iload hx hb dX12_barrel_50 (lv_at hl 0 rfl) ?_
    obtain ⟨hi_5, hf⟩ := ck_some hf
    refine x_iald X Y 1 rfl rfl hi_5 dX12_barrel_52 ?_
    refine lv_icmp_lt (tgt := 115) hx hb dX12_barrel_53 (by decide) (fun c_6 => ?_) (fun c_6 => ?_)
    · have hf := ite_t hf c_6
      exact bM_barrel_115 X h7 h19 hf Y (lv_sub hl [1, 2, 3, 4] rfl)
    · have hf := ite_f hf c_6
      refine lv_aload_n hx hb dX12_barrel_56 rfl (lv_at hl 1 rfl) ?_
      refine gfX12_7 X Y (v := .ref (Am 1)) 0 rfl rfl dX12_barrel_57 ?_
      refine lv_bipush (v := (38 : Int32)) hx hb dX12_barrel_60 (by decide) ?_
      refine lv_iload_n hx hb dX12_barrel_62 rfl (lv_at hl 3 rfl) ?_
      refine lv_iadd hx hb dX12_barrel_63 ?_
      obtain ⟨hi_7, hf⟩ := ck_some hf
      refine x_iald X Y 1 rfl rfl hi_7 dX12_barrel_64 ?_
      refine lv_aload_n hx hb dX12_barrel_65 rfl (lv_at hl 1 rfl) ?_
      refine gfX12_7 X Y (v := .ref (Am 1)) 0 rfl rfl dX12_barrel_66 ?_
      refine lv_iload hx hb dX12_barrel_69 (lv_at hl 0 rfl) ?_
      refine lv_iconst (v := (1 : Int32)) hx hb dX12_barrel_71 (by decide) ?_
      refine lv_iadd hx hb dX12_barrel_72 ?_
      obtain ⟨hi_8, hf⟩ := ck_some hf
      refine x_iald X Y 1 rfl rfl hi_8 dX12_barrel_73 ?_
      refine lv_icmp_gt (tgt := 115) hx hb dX12_barrel_74 (by decide) (fun c_9 => ?_) (fun c_9 => ?_)
      · have hf := ite_t hf c_9
        exact bM_barrel_115 X h7 h19 hf Y (lv_sub hl [1, 2, 3, 4] rfl)
      · have hf := ite_f hf c_9
        refine lv_aload_n hx hb dX12_barrel_77 rfl (lv_at hl 1 rfl) ?_
        refine gfX12_7 X Y (v := .ref (Am 1)) 0 rfl rfl dX12_barrel_78 ?_
        refine lv_iload hx hb dX12_barrel_81 (lv_at hl 0 rfl) ?_
        refine lv_iconst (v := (2 : Int32)) hx hb dX12_barrel_83 (by decide) ?_
        refine lv_iadd hx hb dX12_barrel_84 ?_
        obtain ⟨hi_10, hf⟩ := ck_some hf
        refine x_iald X Y 1 rfl rfl hi_10 dX12_barrel_85 ?_
        refine lv_iconst (v := (3 : Int32)) hx hb dX12_barrel_86 (by decide) ?_
        refine lv_icmp_eq (tgt := 111) hx hb dX12_barrel_87 (by decide) (fun c_11 => ?_) (fun c_11 => ?_)
        · have hf := ite_t hf c_11
          exact bM_barrel_111 X h7 h19 hf Y (lv_sub hl [1, 2, 3, 4] rfl)
        · have hf := ite_f hf c_11
          refine lv_aload_n hx hb dX12_barrel_90 rfl (lv_at hl 1 rfl) ?_
          refine gfX12_7 X Y (v := .ref (Am 1)) 0 rfl rfl dX12_barrel_91 ?_
          refine lv_iload hx hb dX12_barrel_94 (lv_at hl 0 rfl) ?_
          refine lv_iconst (v := (2 : Int32)) hx hb dX12_barrel_96 (by decide) ?_
          refine lv_iadd hx hb dX12_barrel_97 ?_
          obtain ⟨hi_12, hf⟩ := ck_some hf
          refine x_iald X Y 1 rfl rfl hi_12 dX12_barrel_98 ?_
          refine lv_aload_n hx hb dX12_barrel_99 rfl (lv_at hl 1 rfl) ?_
          refine gfX12_7 X Y (v := .ref (Am 1)) 0 rfl rfl dX12_barrel_100 ?_
          refine lv_bipush (v := (22 : Int32)) hx hb dX12_barrel_103 (by decide) ?_
          refine lv_iload_n hx hb dX12_barrel_105 rfl (lv_at hl 3 rfl) ?_
          refine lv_iadd hx hb dX12_barrel_106 ?_
          obtain ⟨hi_13, hf⟩ := ck_some hf
          refine x_iald X Y 1 rfl rfl hi_13 dX12_barrel_107 ?_
          refine lv_icmp_ne (tgt := 115) hx hb dX12_barrel_108 (by decide) (fun c_14 => ?_) (fun c_14 => ?_)
          · have hf := ite_f hf c_14
            exact bM_barrel_115 X h7 h19 hf Y (lv_sub hl [1, 2, 3, 4] rfl)
          · have hf := ite_t hf c_14
            exact bM_barrel_111 X h7 h19 hf Y (lv_sub hl [1, 2, 3, 4] rfl)
def M_barrel_L19 (rc7 : Int32 → Int32 → (Nat → Int32) → Option (Int32)) : Nat → Int32 → Int32 → Int32 → (Nat → Int32) → Option (Int32)
  | 0, _, _, _, _ => none
  | n + 1, x1, x2, x3, w => M_barrel_19 rc7 (M_barrel_L19 rc7 n) x1 x2 x3 w
theorem lM_barrel_19 {Am : Nat → Nat} {kp : Nat → Int32} {tx : Nat → Int32} {td : Int32} {rf : Nat → Int32} {fa : Int64} {fb : Int64} {ap : Int32} {sp : Int32} {iw : Int32} {ig : Int32} {nu : Nat → Int32} {lst : Int32} {lwo : Int32} {hh : Int64} {r0 : Int32} {rc7 : Int32 → Int32 → (Nat → Int32) → Option (Int32)} (X : Cx Γ p s m args meth c RX12 cX12_barrel 6 (some .int) w0) (h7 : ∀ (x1 : Int32) (x2 : Int32) (w : Nat → Int32), rc7 x1 x2 w = some r0 → ∀ (H : Heap) (locs : List Loc) (ls : Array Slot), Wd Γ w0 s (WM Γ Am w kp tx td rf fa fb ap sp iw ig nu lst lwo hh) H locs → lv_has ls 6 [(0, .ref (Am 0)), (1, .int x1), (2, .int x2)] → W p l e rmM_barrel s m args below meth c H locs 0 0 (EI Γ below args s w0 (WM Γ Am w kp tx td rf fa fb ap sp iw ig nu lst lwo hh) r0) (F0 m 7 ls [])) : ∀ (n : Nat) (x1 : Int32) (x2 : Int32) (x3 : Int32) (w : Nat → Int32), M_barrel_L19 rc7 n x1 x2 x3 w = some r0 → ∀ (H : Heap) (locs : List Loc) (ls : Array Slot), Wd Γ w0 s (WM Γ Am w kp tx td rf fa fb ap sp iw ig nu lst lwo hh) H locs → lv_has ls 6 [(0, .ref (Am 0)), (1, .int x1), (2, .int x2), (3, .int x3)] → W p l e rmM_barrel s m args below meth c H locs 0 0 (EI Γ below args s w0 (WM Γ Am w kp tx td rf fa fb ap sp iw ig nu lst lwo hh) r0) (F0 m 19 ls []) := by
  intro n
  induction n with
  | zero => intro x1 x2 x3 w hf; cases hf
  | succ n ih => intro x1 x2 x3 w hf H locs ls Y hl; exact bM_barrel_19 X h7 ih hf Y hl
def M_barrel_7 (rc7 : Int32 → Int32 → (Nat → Int32) → Option (Int32)) (x1 : Int32) (x2 : Int32) (w : Nat → Int32) : Option (Int32) := if (w 0) ≤ x2 then (some x1) else (M_barrel_L19 rc7 FU x1 x2 (0 : Int32) w)
set_option maxHeartbeats 4000000 in
set_option maxRecDepth 100000 in
theorem bM_barrel_7 {Am : Nat → Nat} {w : Nat → Int32} {kp : Nat → Int32} {tx : Nat → Int32} {td : Int32} {rf : Nat → Int32} {fa : Int64} {fb : Int64} {ap : Int32} {sp : Int32} {iw : Int32} {ig : Int32} {nu : Nat → Int32} {lst : Int32} {lwo : Int32} {hh : Int64} {r0 : Int32} {x1 : Int32} {x2 : Int32} {rc7 : Int32 → Int32 → (Nat → Int32) → Option (Int32)} (X : Cx Γ p s m args meth c RX12 cX12_barrel 6 (some .int) w0) (h7 : ∀ (x1 : Int32) (x2 : Int32) (w : Nat → Int32), rc7 x1 x2 w = some r0 → ∀ (H : Heap) (locs : List Loc) (ls : Array Slot), Wd Γ w0 s (WM Γ Am w kp tx td rf fa fb ap sp iw ig nu lst lwo hh) H locs → lv_has ls 6 [(0, .ref (Am 0)), (1, .int x1), (2, .int x2)] → W p l e rmM_barrel s m args below meth c H locs 0 0 (EI Γ below args s w0 (WM Γ Am w kp tx td rf fa fb ap sp iw ig nu lst lwo hh) r0) (F0 m 7 ls [])) (hf : M_barrel_7 rc7 x1 x2 w = some r0) (Y : Wd Γ w0 s (WM Γ Am w kp tx td rf fa fb ap sp iw ig nu lst lwo hh) H locs) (hl : lv_has ls 6 [(0, .ref (Am 0)), (1, .int x1), (2, .int x2)]) : W p l e rmM_barrel s m args below meth c H locs 0 0 (EI Γ below args s w0 (WM Γ Am w kp tx td rf fa fb ap sp iw ig nu lst lwo hh) r0) (F0 m 7 ls []) := by
  have hx := X.1
  have hb := X.2.1
  refine lv_iload_n hx hb dX12_barrel_7 rfl (lv_at hl 2 rfl) ?_
  refine lv_aload_n hx hb dX12_barrel_8 rfl (lv_at hl 0 rfl) ?_
  refine gfX12_7 X Y (v := .ref (Am 1)) 0 rfl rfl dX12_barrel_9 ?_
  refine lv_iconst (v := (0 : Int32)) hx hb dX12_barrel_12 (by decide) ?_
  refine x_iald X Y 1 rfl (j := 0) rfl rfl dX12_barrel_13 ?_
  refine lv_icmp_ge (tgt := 149) hx hb dX12_barrel_14 (by decide) (fun c_1 => ?_) (fun c_1 => ?_)
  · have hf := ite_t hf c_1
    refine lv_iload_n hx hb dX12_barrel_149 rfl (lv_at hl 1 rfl) ?_
    have e90 := Option.some.inj hf
    subst e90
    exact x_iret X Y dX12_barrel_150
  · have hf := ite_f hf c_1
    refine lv_iconst (v := (0 : Int32)) hx hb dX12_barrel_17 (by decide) ?_
    refine lv_istore_n (lv' := [(3, .int (0 : Int32)), (0, .ref (Am 0)), (1, .int x1), (2, .int x2)]) hx hb dX12_barrel_18 rfl hl (by decide) rfl (fun ls hl => ?_)
    exact lM_barrel_19 X h7 _ _ _ _ _ hf _ _ _ Y (lv_sub hl [1, 2, 3, 0] rfl)
def M_barrel_L7 : Nat → Int32 → Int32 → (Nat → Int32) → Option (Int32)
  | 0, _, _, _ => none
  | n + 1, x1, x2, w => M_barrel_7 (M_barrel_L7 n) x1 x2 w
theorem lM_barrel_7 {Am : Nat → Nat} {kp : Nat → Int32} {tx : Nat → Int32} {td : Int32} {rf : Nat → Int32} {fa : Int64} {fb : Int64} {ap : Int32} {sp : Int32} {iw : Int32} {ig : Int32} {nu : Nat → Int32} {lst : Int32} {lwo : Int32} {hh : Int64} {r0 : Int32} (X : Cx Γ p s m args meth c RX12 cX12_barrel 6 (some .int) w0) : ∀ (n : Nat) (x1 : Int32) (x2 : Int32) (w : Nat → Int32), M_barrel_L7 n x1 x2 w = some r0 → ∀ (H : Heap) (locs : List Loc) (ls : Array Slot), Wd Γ w0 s (WM Γ Am w kp tx td rf fa fb ap sp iw ig nu lst lwo hh) H locs → lv_has ls 6 [(0, .ref (Am 0)), (1, .int x1), (2, .int x2)] → W p l e rmM_barrel s m args below meth c H locs 0 0 (EI Γ below args s w0 (WM Γ Am w kp tx td rf fa fb ap sp iw ig nu lst lwo hh) r0) (F0 m 7 ls []) := by
  intro n
  induction n with
  | zero => intro x1 x2 w hf; cases hf
  | succ n ih => intro x1 x2 w hf H locs ls Y hl; exact bM_barrel_7 X ih hf Y hl
def M_barrel (w : Nat → Int32) : Option (Int32) := bd1 (M_thrownSet w) (fun (r_1 : Int32) => M_barrel_L7 FU r_1 (0 : Int32) w)
set_option maxHeartbeats 4000000 in
set_option maxRecDepth 100000 in
theorem bM_barrel_e {Am : Nat → Nat} {w : Nat → Int32} {kp : Nat → Int32} {tx : Nat → Int32} {td : Int32} {rf : Nat → Int32} {fa : Int64} {fb : Int64} {ap : Int32} {sp : Int32} {iw : Int32} {ig : Int32} {nu : Nat → Int32} {lst : Int32} {lwo : Int32} {hh : Int64} {r0 : Int32} (X : Cx Γ p s m args meth c RX12 cX12_barrel 6 (some .int) w0) (hf : M_barrel w = some r0) (Y : Wd Γ w0 s (WM Γ Am w kp tx td rf fa fb ap sp iw ig nu lst lwo hh) H locs) (hl : lv_has ls 6 [(0, .ref (Am 0))]) : W p l e rmM_barrel s m args below meth c H locs 0 0 (EI Γ below args s w0 (WM Γ Am w kp tx td rf fa fb ap sp iw ig nu lst lwo hh) r0) (F0 m 0 ls []) := by
  have hx := X.1
  have hb := X.2.1
  refine lv_aload_n hx hb dX12_barrel_0 rfl (lv_at hl 0 rfl) ?_
  obtain ⟨r_1, ho_2, hf⟩ := bd1_some hf
  refine t_i Y (bkS Y) (r_V (As := []) (rest := []) X (c_preS X Y) (cM_thrownSet ho_2) (cwX12_212 X (by decide)) (va_recv X.K Y.1 (q := (RX12, TX12, 15)) (q0 := 0) (ci := 12) rfl rfl) rfl hl.1 (Nat.le_of_ble_eq_true rfl) rfl dX12_barrel_1 ⟨Nat.zero_le _, Nat.zero_le _⟩) (fun H locs Y => ?_)
  refine lv_istore_n (lv' := [(1, .int r_1), (0, .ref (Am 0))]) hx hb dX12_barrel_4 rfl hl (by decide) rfl (fun ls hl => ?_)
  refine lv_iconst (v := (0 : Int32)) hx hb dX12_barrel_5 (by decide) ?_
  refine lv_istore_n (lv' := [(2, .int (0 : Int32)), (1, .int r_1), (0, .ref (Am 0))]) hx hb dX12_barrel_6 rfl hl (by decide) rfl (fun ls hl => ?_)
  exact lM_barrel_7 X _ _ _ _ hf _ _ _ Y (lv_sub hl [2, 1, 0] rfl)
theorem cM_barrel {l : Launch} {Γ : Gm} {Am : Nat → Nat} {w : Nat → Int32} {kp : Nat → Int32} {tx : Nat → Int32} {td : Int32} {rf : Nat → Int32} {fa : Int64} {fb : Int64} {ap : Int32} {sp : Int32} {iw : Int32} {ig : Int32} {nu : Nat → Int32} {lst : Int32} {lwo : Int32} {hh : Int64} {r0 : Int32} (h : M_barrel w = some r0) : CI l Γ yX12_barrel (Cond.code yX12_barrel cX12_barrel 6 (some .int) :: GW) rmM_barrel [.ref (Am 0)] (WM Γ Am w kp tx td rf fa fb ap sp iw ig nu lst lwo hh) (WM Γ Am w kp tx td rf fa fb ap sp iw ig nu lst lwo hh) r0 := ofBody (Qc := QcI Γ _ _ r0) (by decide) (Nat.le_of_ble_eq_true rfl) (fun p e s m below meth c ls _ X Y hl => bM_barrel_e X h Y hl)
theorem dmX12_barrelV : yX12_barrel.cls = RX12 ∧ yX12_barrel.cls ≠ "java/lang/invoke/MethodHandle" ∧ yX12_barrel.cls ≠ "java/lang/invoke/VarHandle" ∧ (parseMethodDescriptor yX12_barrel.desc).map (fun d => d.parameters.length) = some 0 := by decide +kernel
theorem cwX12_215 (X : Cx Γ p s m args meth c RX12 cc nL ret w0) (hR : rmM_barrel.frames + 1 ≤ R.frames ∧ 8 + (6 + 11) + rmM_barrel.locals ≤ R.locals) : CallW R s args RX12 RX12 215 yX12_barrel cX12_barrel 6 (some .int) (Cond.code yX12_barrel cX12_barrel 6 (some .int) :: GW) rmM_barrel 0 0 0 := cw_V X kw174 kw175 kw176 kw4 kw177 dmX12_barrelV rfl rfl hR
def rmM_whose : Room := { frames := 2, cells := 0, slots := 0, locals := 45 }
def M_whose_9 (rc9 : Int32 → Int32 → Int32 → (Nat → Int32) → Option (Int32)) (x1 : Int32) (x2 : Int32) (x3 : Int32) (w : Nat → Int32) : Option (Int32) := if (w 0) ≤ x3 then (some x1) else (bd1 (M_has x2 x3) (fun (r_2 : Int32) => if r_2 = 0 then (bnd (x1 ||| (0 : Int32)) (fun (x1_4 : Int32) => bnd (x3 + (1 : Int32)) (fun (x3_5 : Int32) => rc9 x1_4 x2 x3_5 w))) else (ck (inb ((14 : Int32) + x3) 320) (bnd (x1 ||| ((1 : Int32) <<< ((w ((14 : Int32) + x3).toNatClampNeg) &&& 31))) (fun (x1_7 : Int32) => bnd (x3 + (1 : Int32)) (fun (x3_8 : Int32) => rc9 x1_7 x2 x3_8 w))))))
set_option maxHeartbeats 4000000 in
set_option maxRecDepth 100000 in
theorem bM_whose_9 {Am : Nat → Nat} {w : Nat → Int32} {kp : Nat → Int32} {tx : Nat → Int32} {td : Int32} {rf : Nat → Int32} {fa : Int64} {fb : Int64} {ap : Int32} {sp : Int32} {iw : Int32} {ig : Int32} {nu : Nat → Int32} {lst : Int32} {lwo : Int32} {hh : Int64} {r0 : Int32} {x1 : Int32} {x2 : Int32} {x3 : Int32} {rc9 : Int32 → Int32 → Int32 → (Nat → Int32) → Option (Int32)} (X : Cx Γ p s m args meth c RX12 cX12_whose 4 (some .int) w0) (h9 : ∀ (x1 : Int32) (x2 : Int32) (x3 : Int32) (w : Nat → Int32), rc9 x1 x2 x3 w = some r0 → ∀ (H : Heap) (locs : List Loc) (ls : Array Slot), Wd Γ w0 s (WM Γ Am w kp tx td rf fa fb ap sp iw ig nu lst lwo hh) H locs → lv_has ls 4 [(0, .ref (Am 0)), (1, .int x1), (2, .int x2), (3, .int x3)] → W p l e rmM_whose s m args below meth c H locs 0 0 (EI Γ below args s w0 (WM Γ Am w kp tx td rf fa fb ap sp iw ig nu lst lwo hh) r0) (F0 m 9 ls [])) (hf : M_whose_9 rc9 x1 x2 x3 w = some r0) (Y : Wd Γ w0 s (WM Γ Am w kp tx td rf fa fb ap sp iw ig nu lst lwo hh) H locs) (hl : lv_has ls 4 [(0, .ref (Am 0)), (1, .int x1), (2, .int x2), (3, .int x3)]) : W p l e rmM_whose s m args below meth c H locs 0 0 (EI Γ below args s w0 (WM Γ Am w kp tx td rf fa fb ap sp iw ig nu lst lwo hh) r0) (F0 m 9 ls []) := by
  have hx := X.1
  have hb := X.2.1
  refine lv_iload_n hx hb dX12_whose_9 rfl (lv_at hl 3 rfl) ?_
  refine lv_aload_n hx hb dX12_whose_10 rfl (lv_at hl 0 rfl) ?_
  refine gfX12_7 X Y (v := .ref (Am 1)) 0 rfl rfl dX12_whose_11 ?_
  refine lv_iconst (v := (0 : Int32)) hx hb dX12_whose_14 (by decide) ?_
  refine x_iald X Y 1 rfl (j := 0) rfl rfl dX12_whose_15 ?_
  refine lv_icmp_ge (tgt := 51) hx hb dX12_whose_16 (by decide) (fun c_1 => ?_) (fun c_1 => ?_)
  · have hf := ite_t hf c_1
    refine lv_iload_n hx hb dX12_whose_51 rfl (lv_at hl 1 rfl) ?_
    have e90 := Option.some.inj hf
    subst e90
    exact x_iret X Y dX12_whose_52
  · have hf := ite_f hf c_1
    refine lv_iload_n hx hb dX12_whose_19 rfl (lv_at hl 1 rfl) ?_
    refine lv_iload_n hx hb dX12_whose_20 rfl (lv_at hl 2 rfl) ?_
    refine lv_iload_n hx hb dX12_whose_21 rfl (lv_at hl 3 rfl) ?_
    obtain ⟨r_2, ho_9, hf⟩ := bd1_some hf
    refine t_i Y (bk0 Y) (r_S (As := [.int x2, .int x3]) (rest := [.int x1]) X (c_pre0 X Y) (cM_has ho_9) (cwX12_70 X (by decide)) rfl hl.1 (Nat.le_of_ble_eq_true rfl) rfl dX12_whose_22 ⟨Nat.zero_le _, Nat.zero_le _⟩) (fun H locs Y => ?_)
    refine lv_if_eq (tgt := 42) hx hb dX12_whose_25 (by decide) (fun c_3 => ?_) (fun c_3 => ?_)
    · have hf := ite_t hf c_3
      refine lv_iconst (v := (0 : Int32)) hx hb dX12_whose_42 (by decide) ?_
      refine lv_ior hx hb dX12_whose_43 ?_
      refine lv_topi (fun x1_4 e_x1_4 => ?_)
      have hf := bnd_eq hf e_x1_4
      refine lv_istore_n (lv' := [(1, .int x1_4), (0, .ref (Am 0)), (2, .int x2), (3, .int x3)]) hx hb dX12_whose_44 rfl hl (by decide) rfl (fun ls hl => ?_)
      obtain ⟨x3_5, e_x3_5⟩ : ∃ z : Int32, z = (x3 + (1 : Int32)) := ⟨_, rfl⟩
      have hf := bnd_eq hf e_x3_5
      refine lv_iinc (v := x3_5) (lv' := [(3, .int x3_5), (1, .int x1_4), (0, .ref (Am 0)), (2, .int x2)]) hx hb dX12_whose_45 hl (k := 3) rfl (by rw [e_x3_5]; rfl) (by decide) rfl (fun ls hl => ?_)
      refine lv_goto (tgt := 9) hx hb dX12_whose_48 (by decide) ?_
      exact h9 _ _ _ _ hf _ _ _ Y (lv_sub hl [2, 1, 3, 0] rfl)
    · have hf := ite_f hf c_3
      refine lv_iconst (v := (1 : Int32)) hx hb dX12_whose_28 (by decide) ?_
      refine lv_aload_n hx hb dX12_whose_29 rfl (lv_at hl 0 rfl) ?_
      refine gfX12_7 X Y (v := .ref (Am 1)) 0 rfl rfl dX12_whose_30 ?_
      refine lv_bipush (v := (14 : Int32)) hx hb dX12_whose_33 (by decide) ?_
      refine lv_iload_n hx hb dX12_whose_35 rfl (lv_at hl 3 rfl) ?_
      refine lv_iadd hx hb dX12_whose_36 ?_
      obtain ⟨hi_6, hf⟩ := ck_some hf
      refine x_iald X Y 1 rfl rfl hi_6 dX12_whose_37 ?_
      refine lv_ishl hx hb dX12_whose_38 ?_
      refine lv_goto (tgt := 43) hx hb dX12_whose_39 (by decide) ?_
      refine lv_ior hx hb dX12_whose_43 ?_
      refine lv_topi (fun x1_7 e_x1_7 => ?_)
      have hf := bnd_eq hf e_x1_7
      refine lv_istore_n (lv' := [(1, .int x1_7), (0, .ref (Am 0)), (2, .int x2), (3, .int x3)]) hx hb dX12_whose_44 rfl hl (by decide) rfl (fun ls hl => ?_)
      obtain ⟨x3_8, e_x3_8⟩ : ∃ z : Int32, z = (x3 + (1 : Int32)) := ⟨_, rfl⟩
      have hf := bnd_eq hf e_x3_8
      refine lv_iinc (v := x3_8) (lv' := [(3, .int x3_8), (1, .int x1_7), (0, .ref (Am 0)), (2, .int x2)]) hx hb dX12_whose_45 hl (k := 3) rfl (by rw [e_x3_8]; rfl) (by decide) rfl (fun ls hl => ?_)
      refine lv_goto (tgt := 9) hx hb dX12_whose_48 (by decide) ?_
      exact h9 _ _ _ _ hf _ _ _ Y (lv_sub hl [2, 1, 3, 0] rfl)
def M_whose_L9 : Nat → Int32 → Int32 → Int32 → (Nat → Int32) → Option (Int32)
  | 0, _, _, _, _ => none
  | n + 1, x1, x2, x3, w => M_whose_9 (M_whose_L9 n) x1 x2 x3 w
theorem lM_whose_9 {Am : Nat → Nat} {kp : Nat → Int32} {tx : Nat → Int32} {td : Int32} {rf : Nat → Int32} {fa : Int64} {fb : Int64} {ap : Int32} {sp : Int32} {iw : Int32} {ig : Int32} {nu : Nat → Int32} {lst : Int32} {lwo : Int32} {hh : Int64} {r0 : Int32} (X : Cx Γ p s m args meth c RX12 cX12_whose 4 (some .int) w0) : ∀ (n : Nat) (x1 : Int32) (x2 : Int32) (x3 : Int32) (w : Nat → Int32), M_whose_L9 n x1 x2 x3 w = some r0 → ∀ (H : Heap) (locs : List Loc) (ls : Array Slot), Wd Γ w0 s (WM Γ Am w kp tx td rf fa fb ap sp iw ig nu lst lwo hh) H locs → lv_has ls 4 [(0, .ref (Am 0)), (1, .int x1), (2, .int x2), (3, .int x3)] → W p l e rmM_whose s m args below meth c H locs 0 0 (EI Γ below args s w0 (WM Γ Am w kp tx td rf fa fb ap sp iw ig nu lst lwo hh) r0) (F0 m 9 ls []) := by
  intro n
  induction n with
  | zero => intro x1 x2 x3 w hf; cases hf
  | succ n ih => intro x1 x2 x3 w hf H locs ls Y hl; exact bM_whose_9 X ih hf Y hl
def M_whose (w : Nat → Int32) : Option (Int32) := bd1 (M_barrel w) (fun (r_1 : Int32) => M_whose_L9 FU (0 : Int32) r_1 (0 : Int32) w)
set_option maxHeartbeats 4000000 in
set_option maxRecDepth 100000 in
theorem bM_whose_e {Am : Nat → Nat} {w : Nat → Int32} {kp : Nat → Int32} {tx : Nat → Int32} {td : Int32} {rf : Nat → Int32} {fa : Int64} {fb : Int64} {ap : Int32} {sp : Int32} {iw : Int32} {ig : Int32} {nu : Nat → Int32} {lst : Int32} {lwo : Int32} {hh : Int64} {r0 : Int32} (X : Cx Γ p s m args meth c RX12 cX12_whose 4 (some .int) w0) (hf : M_whose w = some r0) (Y : Wd Γ w0 s (WM Γ Am w kp tx td rf fa fb ap sp iw ig nu lst lwo hh) H locs) (hl : lv_has ls 4 [(0, .ref (Am 0))]) : W p l e rmM_whose s m args below meth c H locs 0 0 (EI Γ below args s w0 (WM Γ Am w kp tx td rf fa fb ap sp iw ig nu lst lwo hh) r0) (F0 m 0 ls []) := by
  have hx := X.1
  have hb := X.2.1
  refine lv_iconst (v := (0 : Int32)) hx hb dX12_whose_0 (by decide) ?_
  refine lv_istore_n (lv' := [(1, .int (0 : Int32)), (0, .ref (Am 0))]) hx hb dX12_whose_1 rfl hl (by decide) rfl (fun ls hl => ?_)
  refine lv_aload_n hx hb dX12_whose_2 rfl (lv_at hl 1 rfl) ?_
  obtain ⟨r_1, ho_2, hf⟩ := bd1_some hf
  refine t_i Y (bkS Y) (r_V (As := []) (rest := []) X (c_preS X Y) (cM_barrel ho_2) (cwX12_215 X (by decide)) (va_recv X.K Y.1 (q := (RX12, TX12, 15)) (q0 := 0) (ci := 12) rfl rfl) rfl hl.1 (Nat.le_of_ble_eq_true rfl) rfl dX12_whose_3 ⟨Nat.zero_le _, Nat.zero_le _⟩) (fun H locs Y => ?_)
  refine lv_istore_n (lv' := [(2, .int r_1), (1, .int (0 : Int32)), (0, .ref (Am 0))]) hx hb dX12_whose_6 rfl hl (by decide) rfl (fun ls hl => ?_)
  refine lv_iconst (v := (0 : Int32)) hx hb dX12_whose_7 (by decide) ?_
  refine lv_istore_n (lv' := [(3, .int (0 : Int32)), (2, .int r_1), (1, .int (0 : Int32)), (0, .ref (Am 0))]) hx hb dX12_whose_8 rfl hl (by decide) rfl (fun ls hl => ?_)
  exact lM_whose_9 X _ _ _ _ _ hf _ _ _ Y (lv_sub hl [3, 2, 1, 0] rfl)
theorem cM_whose {l : Launch} {Γ : Gm} {Am : Nat → Nat} {w : Nat → Int32} {kp : Nat → Int32} {tx : Nat → Int32} {td : Int32} {rf : Nat → Int32} {fa : Int64} {fb : Int64} {ap : Int32} {sp : Int32} {iw : Int32} {ig : Int32} {nu : Nat → Int32} {lst : Int32} {lwo : Int32} {hh : Int64} {r0 : Int32} (h : M_whose w = some r0) : CI l Γ yX12_whose (Cond.code yX12_whose cX12_whose 4 (some .int) :: GW) rmM_whose [.ref (Am 0)] (WM Γ Am w kp tx td rf fa fb ap sp iw ig nu lst lwo hh) (WM Γ Am w kp tx td rf fa fb ap sp iw ig nu lst lwo hh) r0 := ofBody (Qc := QcI Γ _ _ r0) (by decide) (Nat.le_of_ble_eq_true rfl) (fun p e s m below meth c ls _ X Y hl => bM_whose_e X h Y hl)
def rmM_asks : Room := { frames := 2, cells := 0, slots := 0, locals := 45 }
def M_asks_92 (rc13 : Int32 → Int32 → Int32 → Int32 → (Nat → Int32) → Option (Int32)) (rc30 : Int32 → Int32 → Int32 → Int32 → Int32 → Int32 → (Nat → Int32) → Option (Int32)) (x1 : Int32) (x2 : Int32) (x3 : Int32) (x4 : Int32) (x5 : Int32) (x6 : Int32) (y0 : Int32) (w : Nat → Int32) : Option (Int32) := bd1 (M_has x1 x6) (fun (r_1 : Int32) => if r_1 = 0 then (bnd (x5 + (0 : Int32)) (fun (x5_3 : Int32) => bnd (x6 + (1 : Int32)) (fun (x6_4 : Int32) => rc30 x1 x2 x3 x4 x5_3 x6_4 w))) else (if y0 = 0 then (bnd (x5 + (0 : Int32)) (fun (x5_6 : Int32) => bnd (x6 + (1 : Int32)) (fun (x6_7 : Int32) => rc30 x1 x2 x3 x4 x5_6 x6_7 w))) else (bnd (x5 + (1 : Int32)) (fun (x5_8 : Int32) => bnd (x6 + (1 : Int32)) (fun (x6_9 : Int32) => rc30 x1 x2 x3 x4 x5_8 x6_9 w)))))
set_option maxHeartbeats 4000000 in
set_option maxRecDepth 100000 in
theorem bM_asks_92 {Am : Nat → Nat} {w : Nat → Int32} {kp : Nat → Int32} {tx : Nat → Int32} {td : Int32} {rf : Nat → Int32} {fa : Int64} {fb : Int64} {ap : Int32} {sp : Int32} {iw : Int32} {ig : Int32} {nu : Nat → Int32} {lst : Int32} {lwo : Int32} {hh : Int64} {r0 : Int32} {x1 : Int32} {x2 : Int32} {x3 : Int32} {x4 : Int32} {x5 : Int32} {x6 : Int32} {y0 : Int32} {rc13 : Int32 → Int32 → Int32 → Int32 → (Nat → Int32) → Option (Int32)} {rc30 : Int32 → Int32 → Int32 → Int32 → Int32 → Int32 → (Nat → Int32) → Option (Int32)} (X : Cx Γ p s m args meth c RX12 cX12_asks 8 (some .int) w0) (h13 : ∀ (x1 : Int32) (x2 : Int32) (x3 : Int32) (x4 : Int32) (w : Nat → Int32), rc13 x1 x2 x3 x4 w = some r0 → ∀ (H : Heap) (locs : List Loc) (ls : Array Slot), Wd Γ w0 s (WM Γ Am w kp tx td rf fa fb ap sp iw ig nu lst lwo hh) H locs → lv_has ls 8 [(0, .ref (Am 0)), (1, .int x1), (2, .int x2), (3, .int x3), (4, .int x4)] → W p l e rmM_asks s m args below meth c H locs 0 0 (EI Γ below args s w0 (WM Γ Am w kp tx td rf fa fb ap sp iw ig nu lst lwo hh) r0) (F0 m 13 ls [])) (h30 : ∀ (x1 : Int32) (x2 : Int32) (x3 : Int32) (x4 : Int32) (x5 : Int32) (x6 : Int32) (w : Nat → Int32), rc30 x1 x2 x3 x4 x5 x6 w = some r0 → ∀ (H : Heap) (locs : List Loc) (ls : Array Slot), Wd Γ w0 s (WM Γ Am w kp tx td rf fa fb ap sp iw ig nu lst lwo hh) H locs → lv_has ls 8 [(0, .ref (Am 0)), (1, .int x1), (2, .int x2), (3, .int x3), (4, .int x4), (5, .int x5), (6, .int x6)] → W p l e rmM_asks s m args below meth c H locs 0 0 (EI Γ below args s w0 (WM Γ Am w kp tx td rf fa fb ap sp iw ig nu lst lwo hh) r0) (F0 m 30 ls [])) (hf : M_asks_92 rc13 rc30 x1 x2 x3 x4 x5 x6 y0 w = some r0) (Y : Wd Γ w0 s (WM Γ Am w kp tx td rf fa fb ap sp iw ig nu lst lwo hh) H locs) (hl : lv_has ls 8 [(0, .ref (Am 0)), (1, .int x1), (2, .int x2), (3, .int x3), (4, .int x4), (5, .int x5), (6, .int x6)]) : W p l e rmM_asks s m args below meth c H locs 0 0 (EI Γ below args s w0 (WM Γ Am w kp tx td rf fa fb ap sp iw ig nu lst lwo hh) r0) (F0 m 92 ls [.int y0]) := by
  have hx := X.1
  have hb := X.2.1
  refine lv_istore (lv' := [(7, .int y0), (0, .ref (Am 0)), (1, .int x1), (2, .int x2), (3, .int x3), (4, .int x4), (5, .int x5), (6, .int x6)]) hx hb dX12_asks_92 hl (by decide) rfl (fun ls hl => ?_)
  refine lv_iload hx hb dX12_asks_94 (lv_at hl 6 rfl) ?_
  refine lv_iload_n hx hb dX12_asks_96 rfl (lv_at hl 2 rfl) ?_
  refine lv_iload hx hb dX12_asks_97 (lv_at hl 7 rfl) ?_
  obtain ⟨r_1, ho_10, hf⟩ := bd1_some hf
  refine t_i Y (bk0 Y) (r_S (As := [.int x1, .int x6]) (rest := [.int x5]) X (c_pre0 X Y) (cM_has ho_10) (cwX12_70 X (by decide)) rfl hl.1 (Nat.le_of_ble_eq_true rfl) rfl dX12_asks_99 ⟨Nat.zero_le _, Nat.zero_le _⟩) (fun H locs Y => ?_)
  refine lv_if_eq (tgt := 114) hx hb dX12_asks_102 (by decide) (fun c_2 => ?_) (fun c_2 => ?_)
  · have hf := ite_t hf c_2
    refine lv_iconst (v := (0 : Int32)) hx hb dX12_asks_114 (by decide) ?_
    refine lv_iadd hx hb dX12_asks_115 ?_
    refine lv_topi (fun x5_3 e_x5_3 => ?_)
    have hf := bnd_eq hf e_x5_3
    refine lv_istore (lv' := [(5, .int x5_3), (7, .int y0), (0, .ref (Am 0)), (1, .int x1), (2, .int x2), (3, .int x3), (4, .int x4), (6, .int x6)]) hx hb dX12_asks_116 hl (by decide) rfl (fun ls hl => ?_)
    obtain ⟨x6_4, e_x6_4⟩ : ∃ z : Int32, z = (x6 + (1 : Int32)) := ⟨_, rfl⟩
    have hf := bnd_eq hf e_x6_4
    refine lv_iinc (v := x6_4) (lv' := [(6, .int x6_4), (5, .int x5_3), (7, .int y0), (0, .ref (Am 0)), (1, .int x1), (2, .int x2), (3, .int x3), (4, .int x4)]) hx hb dX12_asks_118 hl (k := 7) rfl (by rw [e_x6_4]; rfl) (by decide) rfl (fun ls hl => ?_)
    refine lv_goto (tgt := 30) hx hb dX12_asks_121 (by decide) ?_
    exact h30 _ _ _ _ _ _ _ hf _ _ _ Y (lv_sub hl [3, 4, 5, 6, 7, 1, 0] rfl)
  · have hf := ite_f hf c_2
    refine lv_iload hx hb dX12_asks_105 (lv_at hl 0 rfl) ?_
    refine lv_if_eq (tgt := 114) hx hb dX12_asks_107 (by decide) (fun c_5 => ?_) (fun c_5 => ?_)
    · have hf := ite_t hf c_5
      refine lv_iconst (v := (0 : Int32)) hx hb dX12_asks_114 (by decide) ?_
      refine lv_iadd hx hb dX12_asks_115 ?_
      refine lv_topi (fun x5_6 e_x5_6 => ?_)
      have hf := bnd_eq hf e_x5_6
      refine lv_istore (lv' := [(5, .int x5_6), (7, .int y0), (0, .ref (Am 0)), (1, .int x1), (2, .int x2), (3, .int x3), (4, .int x4), (6, .int x6)]) hx hb dX12_asks_116 hl (by decide) rfl (fun ls hl => ?_)
      obtain ⟨x6_7, e_x6_7⟩ : ∃ z : Int32, z = (x6 + (1 : Int32)) := ⟨_, rfl⟩
      have hf := bnd_eq hf e_x6_7
      refine lv_iinc (v := x6_7) (lv' := [(6, .int x6_7), (5, .int x5_6), (7, .int y0), (0, .ref (Am 0)), (1, .int x1), (2, .int x2), (3, .int x3), (4, .int x4)]) hx hb dX12_asks_118 hl (k := 7) rfl (by rw [e_x6_7]; rfl) (by decide) rfl (fun ls hl => ?_)
      refine lv_goto (tgt := 30) hx hb dX12_asks_121 (by decide) ?_
      exact h30 _ _ _ _ _ _ _ hf _ _ _ Y (lv_sub hl [3, 4, 5, 6, 7, 1, 0] rfl)
    · have hf := ite_f hf c_5
      refine lv_iconst (v := (1 : Int32)) hx hb dX12_asks_110 (by decide) ?_
      refine lv_goto (tgt := 115) hx hb dX12_asks_111 (by decide) ?_
      refine lv_iadd hx hb dX12_asks_115 ?_
      refine lv_topi (fun x5_8 e_x5_8 => ?_)
      have hf := bnd_eq hf e_x5_8
      refine lv_istore (lv' := [(5, .int x5_8), (7, .int y0), (0, .ref (Am 0)), (1, .int x1), (2, .int x2), (3, .int x3), (4, .int x4), (6, .int x6)]) hx hb dX12_asks_116 hl (by decide) rfl (fun ls hl => ?_)
      obtain ⟨x6_9, e_x6_9⟩ : ∃ z : Int32, z = (x6 + (1 : Int32)) := ⟨_, rfl⟩
      have hf := bnd_eq hf e_x6_9
      refine lv_iinc (v := x6_9) (lv' := [(6, .int x6_9), (5, .int x5_8), (7, .int y0), (0, .ref (Am 0)), (1, .int x1), (2, .int x2), (3, .int x3), (4, .int x4)]) hx hb dX12_asks_118 hl (k := 7) rfl (by rw [e_x6_9]; rfl) (by decide) rfl (fun ls hl => ?_)
      refine lv_goto (tgt := 30) hx hb dX12_asks_121 (by decide) ?_
      exact h30 _ _ _ _ _ _ _ hf _ _ _ Y (lv_sub hl [3, 4, 5, 6, 7, 1, 0] rfl)
def M_asks_161 (rc13 : Int32 → Int32 → Int32 → Int32 → (Nat → Int32) → Option (Int32)) (x1 : Int32) (x3 : Int32) (x4 : Int32) (x7 : Int32) (y0 : Int32) (w : Nat → Int32) : Option (Int32) := if x3 ≤ x7 then (bnd (x4 + (1 : Int32)) (fun (x4_2 : Int32) => rc13 x1 y0 x3 x4_2 w)) else (bnd (x4 + (1 : Int32)) (fun (x4_3 : Int32) => rc13 x1 y0 x7 x4_3 w))
set_option maxHeartbeats 4000000 in
set_option maxRecDepth 100000 in
theorem bM_asks_161 {Am : Nat → Nat} {w : Nat → Int32} {kp : Nat → Int32} {tx : Nat → Int32} {td : Int32} {rf : Nat → Int32} {fa : Int64} {fb : Int64} {ap : Int32} {sp : Int32} {iw : Int32} {ig : Int32} {nu : Nat → Int32} {lst : Int32} {lwo : Int32} {hh : Int64} {r0 : Int32} {x1 : Int32} {x3 : Int32} {x4 : Int32} {x7 : Int32} {y0 : Int32} {rc13 : Int32 → Int32 → Int32 → Int32 → (Nat → Int32) → Option (Int32)} (X : Cx Γ p s m args meth c RX12 cX12_asks 8 (some .int) w0) (h13 : ∀ (x1 : Int32) (x2 : Int32) (x3 : Int32) (x4 : Int32) (w : Nat → Int32), rc13 x1 x2 x3 x4 w = some r0 → ∀ (H : Heap) (locs : List Loc) (ls : Array Slot), Wd Γ w0 s (WM Γ Am w kp tx td rf fa fb ap sp iw ig nu lst lwo hh) H locs → lv_has ls 8 [(0, .ref (Am 0)), (1, .int x1), (2, .int x2), (3, .int x3), (4, .int x4)] → W p l e rmM_asks s m args below meth c H locs 0 0 (EI Γ below args s w0 (WM Γ Am w kp tx td rf fa fb ap sp iw ig nu lst lwo hh) r0) (F0 m 13 ls [])) (hf : M_asks_161 rc13 x1 x3 x4 x7 y0 w = some r0) (Y : Wd Γ w0 s (WM Γ Am w kp tx td rf fa fb ap sp iw ig nu lst lwo hh) H locs) (hl : lv_has ls 8 [(0, .ref (Am 0)), (1, .int x1), (3, .int x3), (4, .int x4), (7, .int x7)]) : W p l e rmM_asks s m args below meth c H locs 0 0 (EI Γ below args s w0 (WM Γ Am w kp tx td rf fa fb ap sp iw ig nu lst lwo hh) r0) (F0 m 161 ls [.int y0]) := by
  have hx := X.1
  have hb := X.2.1
  refine lv_istore_n (lv' := [(2, .int y0), (0, .ref (Am 0)), (1, .int x1), (3, .int x3), (4, .int x4), (7, .int x7)]) hx hb dX12_asks_161 rfl hl (by decide) rfl (fun ls hl => ?_)
  refine lv_iload hx hb dX12_asks_162 (lv_at hl 5 rfl) ?_
  refine lv_iload_n hx hb dX12_asks_164 rfl (lv_at hl 3 rfl) ?_
  refine lv_icmp_ge (tgt := 173) hx hb dX12_asks_165 (by decide) (fun c_1 => ?_) (fun c_1 => ?_)
  · have hf := ite_t hf c_1
    refine lv_iload_n hx hb dX12_asks_173 rfl (lv_at hl 3 rfl) ?_
    refine lv_istore_n (lv' := [(3, .int x3), (2, .int y0), (0, .ref (Am 0)), (1, .int x1), (4, .int x4), (7, .int x7)]) hx hb dX12_asks_174 rfl hl (by decide) rfl (fun ls hl => ?_)
    obtain ⟨x4_2, e_x4_2⟩ : ∃ z : Int32, z = (x4 + (1 : Int32)) := ⟨_, rfl⟩
    have hf := bnd_eq hf e_x4_2
    refine lv_iinc (v := x4_2) (lv' := [(4, .int x4_2), (3, .int x3), (2, .int y0), (0, .ref (Am 0)), (1, .int x1), (7, .int x7)]) hx hb dX12_asks_175 hl (k := 4) rfl (by rw [e_x4_2]; rfl) (by decide) rfl (fun ls hl => ?_)
    refine lv_goto (tgt := 13) hx hb dX12_asks_178 (by decide) ?_
    exact h13 _ _ _ _ _ hf _ _ _ Y (lv_sub hl [3, 4, 2, 1, 0] rfl)
  · have hf := ite_f hf c_1
    refine lv_iload hx hb dX12_asks_168 (lv_at hl 5 rfl) ?_
    refine lv_goto (tgt := 174) hx hb dX12_asks_170 (by decide) ?_
    refine lv_istore_n (lv' := [(3, .int x7), (2, .int y0), (0, .ref (Am 0)), (1, .int x1), (4, .int x4), (7, .int x7)]) hx hb dX12_asks_174 rfl hl (by decide) rfl (fun ls hl => ?_)
    obtain ⟨x4_3, e_x4_3⟩ : ∃ z : Int32, z = (x4 + (1 : Int32)) := ⟨_, rfl⟩
    have hf := bnd_eq hf e_x4_3
    refine lv_iinc (v := x4_3) (lv' := [(4, .int x4_3), (3, .int x7), (2, .int y0), (0, .ref (Am 0)), (1, .int x1), (7, .int x7)]) hx hb dX12_asks_175 hl (k := 4) rfl (by rw [e_x4_3]; rfl) (by decide) rfl (fun ls hl => ?_)
    refine lv_goto (tgt := 13) hx hb dX12_asks_178 (by decide) ?_
    exact h13 _ _ _ _ _ hf _ _ _ Y (lv_sub hl [3, 4, 2, 1, 0] rfl)
def M_asks_147 (rc13 : Int32 → Int32 → Int32 → Int32 → (Nat → Int32) → Option (Int32)) (x1 : Int32) (x2 : Int32) (x3 : Int32) (x4 : Int32) (y0 : Int32) (w : Nat → Int32) : Option (Int32) := if x3 ≤ y0 then (M_asks_161 rc13 x1 x3 x4 y0 x2 w) else (M_asks_161 rc13 x1 x3 x4 y0 x4 w)
set_option maxHeartbeats 4000000 in
set_option maxRecDepth 100000 in
theorem bM_asks_147 {Am : Nat → Nat} {w : Nat → Int32} {kp : Nat → Int32} {tx : Nat → Int32} {td : Int32} {rf : Nat → Int32} {fa : Int64} {fb : Int64} {ap : Int32} {sp : Int32} {iw : Int32} {ig : Int32} {nu : Nat → Int32} {lst : Int32} {lwo : Int32} {hh : Int64} {r0 : Int32} {x1 : Int32} {x2 : Int32} {x3 : Int32} {x4 : Int32} {y0 : Int32} {rc13 : Int32 → Int32 → Int32 → Int32 → (Nat → Int32) → Option (Int32)} (X : Cx Γ p s m args meth c RX12 cX12_asks 8 (some .int) w0) (h13 : ∀ (x1 : Int32) (x2 : Int32) (x3 : Int32) (x4 : Int32) (w : Nat → Int32), rc13 x1 x2 x3 x4 w = some r0 → ∀ (H : Heap) (locs : List Loc) (ls : Array Slot), Wd Γ w0 s (WM Γ Am w kp tx td rf fa fb ap sp iw ig nu lst lwo hh) H locs → lv_has ls 8 [(0, .ref (Am 0)), (1, .int x1), (2, .int x2), (3, .int x3), (4, .int x4)] → W p l e rmM_asks s m args below meth c H locs 0 0 (EI Γ below args s w0 (WM Γ Am w kp tx td rf fa fb ap sp iw ig nu lst lwo hh) r0) (F0 m 13 ls [])) (hf : M_asks_147 rc13 x1 x2 x3 x4 y0 w = some r0) (Y : Wd Γ w0 s (WM Γ Am w kp tx td rf fa fb ap sp iw ig nu lst lwo hh) H locs) (hl : lv_has ls 8 [(0, .ref (Am 0)), (1, .int x1), (2, .int x2), (3, .int x3), (4, .int x4)]) : W p l e rmM_asks s m args below meth c H locs 0 0 (EI Γ below args s w0 (WM Γ Am w kp tx td rf fa fb ap sp iw ig nu lst lwo hh) r0) (F0 m 147 ls [.int y0]) := by
  have hx := X.1
  have hb := X.2.1
  refine lv_istore (lv' := [(7, .int y0), (0, .ref (Am 0)), (1, .int x1), (2, .int x2), (3, .int x3), (4, .int x4)]) hx hb dX12_asks_147 hl (by decide) rfl (fun ls hl => ?_)
  refine lv_iload hx hb dX12_asks_149 (lv_at hl 0 rfl) ?_
  refine lv_iload_n hx hb dX12_asks_151 rfl (lv_at hl 4 rfl) ?_
  refine lv_icmp_ge (tgt := 160) hx hb dX12_asks_152 (by decide) (fun c_1 => ?_) (fun c_1 => ?_)
  · have hf := ite_t hf c_1
    refine lv_iload_n hx hb dX12_asks_160 rfl (lv_at hl 3 rfl) ?_
    exact bM_asks_161 X h13 hf Y (lv_sub hl [1, 2, 4, 5, 0] rfl)
  · have hf := ite_f hf c_1
    refine lv_iload hx hb dX12_asks_155 (lv_at hl 5 rfl) ?_
    refine lv_goto (tgt := 161) hx hb dX12_asks_157 (by decide) ?_
    exact bM_asks_161 X h13 hf Y (lv_sub hl [1, 2, 4, 5, 0] rfl)
def M_asks_30 (rc13 : Int32 → Int32 → Int32 → Int32 → (Nat → Int32) → Option (Int32)) (rc30 : Int32 → Int32 → Int32 → Int32 → Int32 → Int32 → (Nat → Int32) → Option (Int32)) (x1 : Int32) (x2 : Int32) (x3 : Int32) (x4 : Int32) (x5 : Int32) (x6 : Int32) (w : Nat → Int32) : Option (Int32) := if (w 0) ≤ x6 then (bd1 (M_ones x1) (fun (r_2 : Int32) => bnd (r_2 - x5) (fun (x6_3 : Int32) => if x5 ≤ x6_3 then (M_asks_147 rc13 x1 x2 x3 x4 x6_3 w) else (M_asks_147 rc13 x1 x2 x3 x4 x5 w)))) else (if (3 : Int32) ≤ x4 then (ck (inb ((6 : Int32) + x6) 320) (if (w ((6 : Int32) + x6).toNatClampNeg) = (x4 - (3 : Int32)) then (M_asks_92 rc13 rc30 x1 x2 x3 x4 x5 x6 (1 : Int32) w) else (M_asks_92 rc13 rc30 x1 x2 x3 x4 x5 x6 (0 : Int32) w))) else (ck (inb ((22 : Int32) + x6) 320) (if (w ((22 : Int32) + x6).toNatClampNeg) = x4 then (M_asks_92 rc13 rc30 x1 x2 x3 x4 x5 x6 (1 : Int32) w) else (M_asks_92 rc13 rc30 x1 x2 x3 x4 x5 x6 (0 : Int32) w))))
set_option maxHeartbeats 4000000 in
set_option maxRecDepth 100000 in
theorem bM_asks_30 {Am : Nat → Nat} {w : Nat → Int32} {kp : Nat → Int32} {tx : Nat → Int32} {td : Int32} {rf : Nat → Int32} {fa : Int64} {fb : Int64} {ap : Int32} {sp : Int32} {iw : Int32} {ig : Int32} {nu : Nat → Int32} {lst : Int32} {lwo : Int32} {hh : Int64} {r0 : Int32} {x1 : Int32} {x2 : Int32} {x3 : Int32} {x4 : Int32} {x5 : Int32} {x6 : Int32} {rc13 : Int32 → Int32 → Int32 → Int32 → (Nat → Int32) → Option (Int32)} {rc30 : Int32 → Int32 → Int32 → Int32 → Int32 → Int32 → (Nat → Int32) → Option (Int32)} (X : Cx Γ p s m args meth c RX12 cX12_asks 8 (some .int) w0) (h13 : ∀ (x1 : Int32) (x2 : Int32) (x3 : Int32) (x4 : Int32) (w : Nat → Int32), rc13 x1 x2 x3 x4 w = some r0 → ∀ (H : Heap) (locs : List Loc) (ls : Array Slot), Wd Γ w0 s (WM Γ Am w kp tx td rf fa fb ap sp iw ig nu lst lwo hh) H locs → lv_has ls 8 [(0, .ref (Am 0)), (1, .int x1), (2, .int x2), (3, .int x3), (4, .int x4)] → W p l e rmM_asks s m args below meth c H locs 0 0 (EI Γ below args s w0 (WM Γ Am w kp tx td rf fa fb ap sp iw ig nu lst lwo hh) r0) (F0 m 13 ls [])) (h30 : ∀ (x1 : Int32) (x2 : Int32) (x3 : Int32) (x4 : Int32) (x5 : Int32) (x6 : Int32) (w : Nat → Int32), rc30 x1 x2 x3 x4 x5 x6 w = some r0 → ∀ (H : Heap) (locs : List Loc) (ls : Array Slot), Wd Γ w0 s (WM Γ Am w kp tx td rf fa fb ap sp iw ig nu lst lwo hh) H locs → lv_has ls 8 [(0, .ref (Am 0)), (1, .int x1), (2, .int x2), (3, .int x3), (4, .int x4), (5, .int x5), (6, .int x6)] → W p l e rmM_asks s m args below meth c H locs 0 0 (EI Γ below args s w0 (WM Γ Am w kp tx td rf fa fb ap sp iw ig nu lst lwo hh) r0) (F0 m 30 ls [])) (hf : M_asks_30 rc13 rc30 x1 x2 x3 x4 x5 x6 w = some r0) (Y : Wd Γ w0 s (WM Γ Am w kp tx td rf fa fb ap sp iw ig nu lst lwo hh) H locs) (hl : lv_has ls 8 [(0, .ref (Am 0)), (1, .int x1), (2, .int x2), (3, .int x3), (4, .int x4), (5, .int x5), (6, .int x6)]) : W p l e rmM_asks s m args below meth c H locs 0 0 (EI Γ below args s w0 (WM Γ Am w kp tx td rf fa fb ap sp iw ig nu lst lwo hh) r0) (F0 m 30 ls []) := by
  have hx := X.1
  have hb := X.2.1
  refine lv_iload hx hb dX12_asks_30 (lv_at hl 6 rfl) ?_
  refine lv_aload_n hx hb dX12_asks_32 rfl (lv_at hl 0 rfl) ?_
  refine gfX12_7 X Y (v := .ref (Am 1)) 0 rfl rfl dX12_asks_33 ?_
  refine lv_iconst (v := (0 : Int32)) hx hb dX12_asks_36 (by decide) ?_
  refine x_iald X Y 1 rfl (j := 0) rfl rfl dX12_asks_37 ?_
  refine lv_icmp_ge (tgt := 124) hx hb dX12_asks_38 (by decide) (fun c_1 => ?_) (fun c_1 => ?_)
  · have hf := ite_t hf c_1
    refine lv_iload_n hx hb dX12_asks_124 rfl (lv_at hl 1 rfl) ?_
    obtain ⟨r_2, ho_5, hf⟩ := bd1_some hf
    refine t_i Y (bk0 Y) (r_S (As := [.int x1]) (rest := []) X (c_pre0 X Y) (cM_ones ho_5) (cwX12_155 X (by decide)) rfl hl.1 (Nat.le_of_ble_eq_true rfl) rfl dX12_asks_125 ⟨Nat.zero_le _, Nat.zero_le _⟩) (fun H locs Y => ?_)
    refine lv_iload hx hb dX12_asks_128 (lv_at hl 5 rfl) ?_
    refine lv_isub hx hb dX12_asks_130 ?_
    refine lv_topi (fun x6_3 e_x6_3 => ?_)
    have hf := bnd_eq hf e_x6_3
    refine lv_istore (lv' := [(6, .int x6_3), (0, .ref (Am 0)), (1, .int x1), (2, .int x2), (3, .int x3), (4, .int x4), (5, .int x5)]) hx hb dX12_asks_131 hl (by decide) rfl (fun ls hl => ?_)
    refine lv_iload hx hb dX12_asks_133 (lv_at hl 6 rfl) ?_
    refine lv_iload hx hb dX12_asks_135 (lv_at hl 0 rfl) ?_
    refine lv_icmp_le (tgt := 145) hx hb dX12_asks_137 (by decide) (fun c_4 => ?_) (fun c_4 => ?_)
    · have hf := ite_t hf c_4
      refine lv_iload hx hb dX12_asks_145 (lv_at hl 0 rfl) ?_
      exact bM_asks_147 X h13 hf Y (lv_sub hl [1, 2, 3, 4, 5] rfl)
    · have hf := ite_f hf c_4
      refine lv_iload hx hb dX12_asks_140 (lv_at hl 6 rfl) ?_
      refine lv_goto (tgt := 147) hx hb dX12_asks_142 (by decide) ?_
      exact bM_asks_147 X h13 hf Y (lv_sub hl [1, 2, 3, 4, 5] rfl)
  · have hf := ite_f hf c_1
    refine lv_iload hx hb dX12_asks_41 (lv_at hl 4 rfl) ?_
    refine lv_iconst (v := (3 : Int32)) hx hb dX12_asks_43 (by decide) ?_
    refine lv_icmp_ge (tgt := 70) hx hb dX12_asks_44 (by decide) (fun c_6 => ?_) (fun c_6 => ?_)
    · have hf := ite_t hf c_6
      refine lv_aload_n hx hb dX12_asks_70 rfl (lv_at hl 0 rfl) ?_
      refine gfX12_7 X Y (v := .ref (Am 1)) 0 rfl rfl dX12_asks_71 ?_
      refine lv_bipush (v := (6 : Int32)) hx hb dX12_asks_74 (by decide) ?_
      refine lv_iload hx hb dX12_asks_76 (lv_at hl 6 rfl) ?_
      refine lv_iadd hx hb dX12_asks_78 ?_
      obtain ⟨hi_7, hf⟩ := ck_some hf
      refine x_iald X Y 1 rfl rfl hi_7 dX12_asks_79 ?_
      refine lv_iload hx hb dX12_asks_80 (lv_at hl 4 rfl) ?_
      refine lv_iconst (v := (3 : Int32)) hx hb dX12_asks_82 (by decide) ?_
      refine lv_isub hx hb dX12_asks_83 ?_
      refine lv_icmp_ne (tgt := 91) hx hb dX12_asks_84 (by decide) (fun c_8 => ?_) (fun c_8 => ?_)
      · have hf := ite_f hf c_8
        refine lv_iconst (v := (0 : Int32)) hx hb dX12_asks_91 (by decide) ?_
        exact bM_asks_92 X h13 h30 hf Y (lv_sub hl [0, 1, 2, 3, 4, 5, 6] rfl)
      · have hf := ite_t hf c_8
        refine lv_iconst (v := (1 : Int32)) hx hb dX12_asks_87 (by decide) ?_
        refine lv_goto (tgt := 92) hx hb dX12_asks_88 (by decide) ?_
        exact bM_asks_92 X h13 h30 hf Y (lv_sub hl [0, 1, 2, 3, 4, 5, 6] rfl)
    · have hf := ite_f hf c_6
      refine lv_aload_n hx hb dX12_asks_47 rfl (lv_at hl 0 rfl) ?_
      refine gfX12_7 X Y (v := .ref (Am 1)) 0 rfl rfl dX12_asks_48 ?_
      refine lv_bipush (v := (22 : Int32)) hx hb dX12_asks_51 (by decide) ?_
      refine lv_iload hx hb dX12_asks_53 (lv_at hl 6 rfl) ?_
      refine lv_iadd hx hb dX12_asks_55 ?_
      obtain ⟨hi_9, hf⟩ := ck_some hf
      refine x_iald X Y 1 rfl rfl hi_9 dX12_asks_56 ?_
      refine lv_iload hx hb dX12_asks_57 (lv_at hl 4 rfl) ?_
      refine lv_icmp_ne (tgt := 66) hx hb dX12_asks_59 (by decide) (fun c_10 => ?_) (fun c_10 => ?_)
      · have hf := ite_f hf c_10
        refine lv_iconst (v := (0 : Int32)) hx hb dX12_asks_66 (by decide) ?_
        refine lv_goto (tgt := 92) hx hb dX12_asks_67 (by decide) ?_
        exact bM_asks_92 X h13 h30 hf Y (lv_sub hl [0, 1, 2, 3, 4, 5, 6] rfl)
      · have hf := ite_t hf c_10
        refine lv_iconst (v := (1 : Int32)) hx hb dX12_asks_62 (by decide) ?_
        refine lv_goto (tgt := 92) hx hb dX12_asks_63 (by decide) ?_
        exact bM_asks_92 X h13 h30 hf Y (lv_sub hl [0, 1, 2, 3, 4, 5, 6] rfl)
def M_asks_L30 (rc13 : Int32 → Int32 → Int32 → Int32 → (Nat → Int32) → Option (Int32)) : Nat → Int32 → Int32 → Int32 → Int32 → Int32 → Int32 → (Nat → Int32) → Option (Int32)
  | 0, _, _, _, _, _, _, _ => none
  | n + 1, x1, x2, x3, x4, x5, x6, w => M_asks_30 rc13 (M_asks_L30 rc13 n) x1 x2 x3 x4 x5 x6 w
theorem lM_asks_30 {Am : Nat → Nat} {kp : Nat → Int32} {tx : Nat → Int32} {td : Int32} {rf : Nat → Int32} {fa : Int64} {fb : Int64} {ap : Int32} {sp : Int32} {iw : Int32} {ig : Int32} {nu : Nat → Int32} {lst : Int32} {lwo : Int32} {hh : Int64} {r0 : Int32} {rc13 : Int32 → Int32 → Int32 → Int32 → (Nat → Int32) → Option (Int32)} (X : Cx Γ p s m args meth c RX12 cX12_asks 8 (some .int) w0) (h13 : ∀ (x1 : Int32) (x2 : Int32) (x3 : Int32) (x4 : Int32) (w : Nat → Int32), rc13 x1 x2 x3 x4 w = some r0 → ∀ (H : Heap) (locs : List Loc) (ls : Array Slot), Wd Γ w0 s (WM Γ Am w kp tx td rf fa fb ap sp iw ig nu lst lwo hh) H locs → lv_has ls 8 [(0, .ref (Am 0)), (1, .int x1), (2, .int x2), (3, .int x3), (4, .int x4)] → W p l e rmM_asks s m args below meth c H locs 0 0 (EI Γ below args s w0 (WM Γ Am w kp tx td rf fa fb ap sp iw ig nu lst lwo hh) r0) (F0 m 13 ls [])) : ∀ (n : Nat) (x1 : Int32) (x2 : Int32) (x3 : Int32) (x4 : Int32) (x5 : Int32) (x6 : Int32) (w : Nat → Int32), M_asks_L30 rc13 n x1 x2 x3 x4 x5 x6 w = some r0 → ∀ (H : Heap) (locs : List Loc) (ls : Array Slot), Wd Γ w0 s (WM Γ Am w kp tx td rf fa fb ap sp iw ig nu lst lwo hh) H locs → lv_has ls 8 [(0, .ref (Am 0)), (1, .int x1), (2, .int x2), (3, .int x3), (4, .int x4), (5, .int x5), (6, .int x6)] → W p l e rmM_asks s m args below meth c H locs 0 0 (EI Γ below args s w0 (WM Γ Am w kp tx td rf fa fb ap sp iw ig nu lst lwo hh) r0) (F0 m 30 ls []) := by
  intro n
  induction n with
  | zero => intro x1 x2 x3 x4 x5 x6 w hf; cases hf
  | succ n ih => intro x1 x2 x3 x4 x5 x6 w hf H locs ls Y hl; exact bM_asks_30 X h13 ih hf Y hl
def M_asks_13 (rc13 : Int32 → Int32 → Int32 → Int32 → (Nat → Int32) → Option (Int32)) (x1 : Int32) (x2 : Int32) (x3 : Int32) (x4 : Int32) (w : Nat → Int32) : Option (Int32) := if (9 : Int32) ≤ x4 then (some x2) else (if x1 = 0 then (some x2) else (M_asks_L30 rc13 FU x1 x2 x3 x4 (0 : Int32) (0 : Int32) w))
set_option maxHeartbeats 4000000 in
set_option maxRecDepth 100000 in
theorem bM_asks_13 {Am : Nat → Nat} {w : Nat → Int32} {kp : Nat → Int32} {tx : Nat → Int32} {td : Int32} {rf : Nat → Int32} {fa : Int64} {fb : Int64} {ap : Int32} {sp : Int32} {iw : Int32} {ig : Int32} {nu : Nat → Int32} {lst : Int32} {lwo : Int32} {hh : Int64} {r0 : Int32} {x1 : Int32} {x2 : Int32} {x3 : Int32} {x4 : Int32} {rc13 : Int32 → Int32 → Int32 → Int32 → (Nat → Int32) → Option (Int32)} (X : Cx Γ p s m args meth c RX12 cX12_asks 8 (some .int) w0) (h13 : ∀ (x1 : Int32) (x2 : Int32) (x3 : Int32) (x4 : Int32) (w : Nat → Int32), rc13 x1 x2 x3 x4 w = some r0 → ∀ (H : Heap) (locs : List Loc) (ls : Array Slot), Wd Γ w0 s (WM Γ Am w kp tx td rf fa fb ap sp iw ig nu lst lwo hh) H locs → lv_has ls 8 [(0, .ref (Am 0)), (1, .int x1), (2, .int x2), (3, .int x3), (4, .int x4)] → W p l e rmM_asks s m args below meth c H locs 0 0 (EI Γ below args s w0 (WM Γ Am w kp tx td rf fa fb ap sp iw ig nu lst lwo hh) r0) (F0 m 13 ls [])) (hf : M_asks_13 rc13 x1 x2 x3 x4 w = some r0) (Y : Wd Γ w0 s (WM Γ Am w kp tx td rf fa fb ap sp iw ig nu lst lwo hh) H locs) (hl : lv_has ls 8 [(0, .ref (Am 0)), (1, .int x1), (2, .int x2), (3, .int x3), (4, .int x4)]) : W p l e rmM_asks s m args below meth c H locs 0 0 (EI Γ below args s w0 (WM Γ Am w kp tx td rf fa fb ap sp iw ig nu lst lwo hh) r0) (F0 m 13 ls []) := by
  have hx := X.1
  have hb := X.2.1
  refine lv_iload hx hb dX12_asks_13 (lv_at hl 4 rfl) ?_
  refine lv_bipush (v := (9 : Int32)) hx hb dX12_asks_15 (by decide) ?_
  refine lv_icmp_ge (tgt := 181) hx hb dX12_asks_17 (by decide) (fun c_1 => ?_) (fun c_1 => ?_)
  · have hf := ite_t hf c_1
    refine lv_iload_n hx hb dX12_asks_181 rfl (lv_at hl 2 rfl) ?_
    have e90 := Option.some.inj hf
    subst e90
    exact x_iret X Y dX12_asks_182
  · have hf := ite_f hf c_1
    refine lv_iload_n hx hb dX12_asks_20 rfl (lv_at hl 1 rfl) ?_
    refine lv_if_eq (tgt := 181) hx hb dX12_asks_21 (by decide) (fun c_2 => ?_) (fun c_2 => ?_)
    · have hf := ite_t hf c_2
      refine lv_iload_n hx hb dX12_asks_181 rfl (lv_at hl 2 rfl) ?_
      have e90 := Option.some.inj hf
      subst e90
      exact x_iret X Y dX12_asks_182
    · have hf := ite_f hf c_2
      refine lv_iconst (v := (0 : Int32)) hx hb dX12_asks_24 (by decide) ?_
      refine lv_istore (lv' := [(5, .int (0 : Int32)), (0, .ref (Am 0)), (1, .int x1), (2, .int x2), (3, .int x3), (4, .int x4)]) hx hb dX12_asks_25 hl (by decide) rfl (fun ls hl => ?_)
      refine lv_iconst (v := (0 : Int32)) hx hb dX12_asks_27 (by decide) ?_
      refine lv_istore (lv' := [(6, .int (0 : Int32)), (5, .int (0 : Int32)), (0, .ref (Am 0)), (1, .int x1), (2, .int x2), (3, .int x3), (4, .int x4)]) hx hb dX12_asks_28 hl (by decide) rfl (fun ls hl => ?_)
      exact lM_asks_30 X h13 _ _ _ _ _ _ _ _ hf _ _ _ Y (lv_sub hl [2, 3, 4, 5, 6, 1, 0] rfl)
def M_asks_L13 : Nat → Int32 → Int32 → Int32 → Int32 → (Nat → Int32) → Option (Int32)
  | 0, _, _, _, _, _ => none
  | n + 1, x1, x2, x3, x4, w => M_asks_13 (M_asks_L13 n) x1 x2 x3 x4 w
theorem lM_asks_13 {Am : Nat → Nat} {kp : Nat → Int32} {tx : Nat → Int32} {td : Int32} {rf : Nat → Int32} {fa : Int64} {fb : Int64} {ap : Int32} {sp : Int32} {iw : Int32} {ig : Int32} {nu : Nat → Int32} {lst : Int32} {lwo : Int32} {hh : Int64} {r0 : Int32} (X : Cx Γ p s m args meth c RX12 cX12_asks 8 (some .int) w0) : ∀ (n : Nat) (x1 : Int32) (x2 : Int32) (x3 : Int32) (x4 : Int32) (w : Nat → Int32), M_asks_L13 n x1 x2 x3 x4 w = some r0 → ∀ (H : Heap) (locs : List Loc) (ls : Array Slot), Wd Γ w0 s (WM Γ Am w kp tx td rf fa fb ap sp iw ig nu lst lwo hh) H locs → lv_has ls 8 [(0, .ref (Am 0)), (1, .int x1), (2, .int x2), (3, .int x3), (4, .int x4)] → W p l e rmM_asks s m args below meth c H locs 0 0 (EI Γ below args s w0 (WM Γ Am w kp tx td rf fa fb ap sp iw ig nu lst lwo hh) r0) (F0 m 13 ls []) := by
  intro n
  induction n with
  | zero => intro x1 x2 x3 x4 w hf; cases hf
  | succ n ih => intro x1 x2 x3 x4 w hf H locs ls Y hl; exact bM_asks_13 X ih hf Y hl
def M_asks (w : Nat → Int32) : Option (Int32) := bd1 (M_barrel w) (fun (r_1 : Int32) => M_asks_L13 FU r_1 (-1 : Int32) (1000000 : Int32) (0 : Int32) w)
set_option maxHeartbeats 4000000 in
set_option maxRecDepth 100000 in
theorem bM_asks_e {Am : Nat → Nat} {w : Nat → Int32} {kp : Nat → Int32} {tx : Nat → Int32} {td : Int32} {rf : Nat → Int32} {fa : Int64} {fb : Int64} {ap : Int32} {sp : Int32} {iw : Int32} {ig : Int32} {nu : Nat → Int32} {lst : Int32} {lwo : Int32} {hh : Int64} {r0 : Int32} (X : Cx Γ p s m args meth c RX12 cX12_asks 8 (some .int) w0) (hf : M_asks w = some r0) (Y : Wd Γ w0 s (WM Γ Am w kp tx td rf fa fb ap sp iw ig nu lst lwo hh) H locs) (hl : lv_has ls 8 [(0, .ref (Am 0))]) : W p l e rmM_asks s m args below meth c H locs 0 0 (EI Γ below args s w0 (WM Γ Am w kp tx td rf fa fb ap sp iw ig nu lst lwo hh) r0) (F0 m 0 ls []) := by
  have hx := X.1
  have hb := X.2.1
  refine lv_aload_n hx hb dX12_asks_0 rfl (lv_at hl 0 rfl) ?_
  obtain ⟨r_1, ho_2, hf⟩ := bd1_some hf
  refine t_i Y (bkS Y) (r_V (As := []) (rest := []) X (c_preS X Y) (cM_barrel ho_2) (cwX12_215 X (by decide)) (va_recv X.K Y.1 (q := (RX12, TX12, 15)) (q0 := 0) (ci := 12) rfl rfl) rfl hl.1 (Nat.le_of_ble_eq_true rfl) rfl dX12_asks_1 ⟨Nat.zero_le _, Nat.zero_le _⟩) (fun H locs Y => ?_)
  refine lv_istore_n (lv' := [(1, .int r_1), (0, .ref (Am 0))]) hx hb dX12_asks_4 rfl hl (by decide) rfl (fun ls hl => ?_)
  refine lv_iconst (v := (-1 : Int32)) hx hb dX12_asks_5 (by decide) ?_
  refine lv_istore_n (lv' := [(2, .int (-1 : Int32)), (1, .int r_1), (0, .ref (Am 0))]) hx hb dX12_asks_6 rfl hl (by decide) rfl (fun ls hl => ?_)
  refine lv_ldc (v := (1000000 : Int32)) hx hb X.2.2.2.1 (X.2.2.2.2.1 _ kw156) dX12_asks_7 ?_
  refine lv_istore_n (lv' := [(3, .int (1000000 : Int32)), (2, .int (-1 : Int32)), (1, .int r_1), (0, .ref (Am 0))]) hx hb dX12_asks_9 rfl hl (by decide) rfl (fun ls hl => ?_)
  refine lv_iconst (v := (0 : Int32)) hx hb dX12_asks_10 (by decide) ?_
  refine lv_istore (lv' := [(4, .int (0 : Int32)), (3, .int (1000000 : Int32)), (2, .int (-1 : Int32)), (1, .int r_1), (0, .ref (Am 0))]) hx hb dX12_asks_11 hl (by decide) rfl (fun ls hl => ?_)
  exact lM_asks_13 X _ _ _ _ _ _ hf _ _ _ Y (lv_sub hl [4, 3, 2, 1, 0] rfl)
theorem cM_asks {l : Launch} {Γ : Gm} {Am : Nat → Nat} {w : Nat → Int32} {kp : Nat → Int32} {tx : Nat → Int32} {td : Int32} {rf : Nat → Int32} {fa : Int64} {fb : Int64} {ap : Int32} {sp : Int32} {iw : Int32} {ig : Int32} {nu : Nat → Int32} {lst : Int32} {lwo : Int32} {hh : Int64} {r0 : Int32} (h : M_asks w = some r0) : CI l Γ yX12_asks (Cond.code yX12_asks cX12_asks 8 (some .int) :: GW) rmM_asks [.ref (Am 0)] (WM Γ Am w kp tx td rf fa fb ap sp iw ig nu lst lwo hh) (WM Γ Am w kp tx td rf fa fb ap sp iw ig nu lst lwo hh) r0 := ofBody (Qc := QcI Γ _ _ r0) (by decide) (Nat.le_of_ble_eq_true rfl) (fun p e s m below meth c ls _ X Y hl => bM_asks_e X h Y hl)
end
