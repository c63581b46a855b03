section
variable {p : Program} {l : Launch} {e : Env} {R : Room} {s : State} {m : MethodId} {args : Array Value} {below : List Frame} {meth : Method} {c : Code} {H : Heap} {locs : List Loc} {Q : State → Prop} {cells slots : Nat}
variable {Γ : Gm} {own : String} {cc : ByteArray} {nL : Nat} {ret : Option FieldType} {w0 ws ws' : va_W} {pc : Nat} {ls : Array Slot} {rest : List Value} {a : Nat}
def rmJ_coder : Room := { frames := 0, cells := 0, slots := 0, locals := 0 }
def rmJ_length : Room := { frames := 1, cells := 0, slots := 0, locals := 20 }
def rmJ_isLatin1 : Room := { frames := 0, cells := 0, slots := 0, locals := 0 }
def rmJ_pc : Room := { frames := 0, cells := 0, slots := 0, locals := 0 }
def rmJ_ck : Room := { frames := 1, cells := 0, slots := 0, locals := 22 }
def rmJ_lc : Room := { frames := 2, cells := 0, slots := 0, locals := 43 }
def rmJ_charAt : Room := { frames := 3, cells := 0, slots := 0, locals := 64 }
def J_length (k : Nat) : Option Int32 := ck (decide (k < 3)) (some (Int32.ofNat (SLN.getD k 0)))
def J_ch (k : Nat) (i : Int32) : Int32 := ((((SBY.getD k []).getD i.toNatClampNeg 0) &&& 255).toUInt32 % 65536).toInt32
def J_charAt (k : Nat) (i : Int32) : Option Int32 := ck (decide (k < 3)) (ck (inb i (SLN.getD k 0)) (some (J_ch k i)))
theorem cJ_coder {l : Launch} {Γ : Gm} {k : Nat} (hk : k < 3) : CI l Γ yJ0_coder_7d493 (Cond.code yJ0_coder_7d493 cJ0_coder_7d493 1 (some .byte) :: GW) rmJ_coder [.ref (Γ.2.2 (10 + k))] [] [] 0 := ofBody (Qc := QcI Γ _ _ 0) (by decide) (Nat.le_of_ble_eq_true rfl) (fun p e s m below meth c ls _ X Y hl => by
  have hx := X.1
  have hb := X.2.1
  refine va_gets hx hb X.E.2.2.2.2.1 Y.2.2 X.2.2.2.1 (X.2.2.2.2.1 _ kw678) (fun _ h => h) dJ0_coder_7d493_0 ?_
  refine lv_if_eq (tgt := 13) hx hb dJ0_coder_7d493_3 (by decide) (fun c9 => absurd c9 (by decide)) (fun _ => ?_)
  refine lv_aload_n hx hb dJ0_coder_7d493_6 rfl (lv_at hl 0 rfl) ?_
  refine vk_getf hx hb (X.E.2.2.1.1 k hk).2.1 Y.2.2 X.2.2.2.1 (X.2.2.2.2.1 _ kw679) (fun _ h => h) dJ0_coder_7d493_7 ?_
  refine lv_goto (tgt := 14) hx hb dJ0_coder_7d493_10 (by decide) ?_
  exact x_zret X Y rfl dJ0_coder_7d493_14)
theorem cJ_isLatin1 {l : Launch} {Γ : Gm} {k : Nat} (hk : k < 3) : CI l Γ yJ0_isLatin1_aae02 (Cond.code yJ0_isLatin1_aae02 cJ0_isLatin1_aae02 1 (some .boolean) :: GW) rmJ_isLatin1 [.ref (Γ.2.2 (10 + k))] [] [] 1 := ofBody (Qc := QcI Γ _ _ 1) (by decide) (Nat.le_of_ble_eq_true rfl) (fun p e s m below meth c ls _ X Y hl => by
  have hx := X.1
  have hb := X.2.1
  refine va_gets hx hb X.E.2.2.2.2.1 Y.2.2 X.2.2.2.1 (X.2.2.2.2.1 _ kw678) (fun _ h => h) dJ0_isLatin1_aae02_0 ?_
  refine lv_if_eq (tgt := 17) hx hb dJ0_isLatin1_aae02_3 (by decide) (fun c9 => absurd c9 (by decide)) (fun _ => ?_)
  refine lv_aload_n hx hb dJ0_isLatin1_aae02_6 rfl (lv_at hl 0 rfl) ?_
  refine vk_getf hx hb (X.E.2.2.1.1 k hk).2.1 Y.2.2 X.2.2.2.1 (X.2.2.2.2.1 _ kw679) (fun _ h => h) dJ0_isLatin1_aae02_7 ?_
  refine lv_if_ne (tgt := 17) hx hb dJ0_isLatin1_aae02_10 (by decide) (fun c9 => absurd rfl c9) (fun _ => ?_)
  refine lv_iconst (v := 1) hx hb dJ0_isLatin1_aae02_13 (by decide) ?_
  refine lv_goto (tgt := 18) hx hb dJ0_isLatin1_aae02_14 (by decide) ?_
  exact x_zret X Y rfl dJ0_isLatin1_aae02_18)
theorem cJ_length {l : Launch} {Γ : Gm} {k : Nat} {r : Int32} (h : J_length k = some r) : CI l Γ yJ0_length_8abf5 (Cond.code yJ0_length_8abf5 cJ0_length_8abf5 1 (some .int) :: GW) rmJ_length [.ref (Γ.2.2 (10 + k))] [] [] r := by
  obtain ⟨hk, h⟩ := ck_some h
  have hk := of_decide_eq_true hk
  have h := Option.some.inj h
  subst h
  refine ofBody (Qc := QcI Γ _ _ _) (by decide) (Nat.le_of_ble_eq_true rfl) (fun p e s m below meth c ls _ X Y hl => ?_)
  have hx := X.1
  have hb := X.2.1
  refine lv_aload_n hx hb dJ0_length_8abf5_0 rfl (lv_at hl 0 rfl) ?_
  refine vk_getf hx hb (X.E.2.2.1.1 k hk).2.2.1 Y.2.2 X.2.2.2.1 (X.2.2.2.2.1 _ kw680) (fun _ h => h) dJ0_length_8abf5_1 ?_
  refine va_tlen hx hb (X.E.2.2.1.1 k hk).2.2.2 Y.2.2 rfl dJ0_length_8abf5_4 ?_
  refine lv_aload_n hx hb dJ0_length_8abf5_5 rfl (lv_at hl 0 rfl) ?_
  refine t_i Y (bk0 Y) (r_V (As := []) (rest := [.int (Int32.ofNat (SLN.getD k 0))]) X (c_pre0 X Y) (cJ_coder hk) (cw_V (rm := rmJ_coder) (n := 0) (C := RJ0) X kw682 kw683 kw684 kw410 kw685 (by decide +kernel) rfl rfl (by decide)) (vk_recv (adK := fun i => Γ.2.2 (10 + i)) (i := k) X.E.2.2.1 hk Y.2.2) rfl hl.1 (Nat.le_of_ble_eq_true rfl) rfl dJ0_length_8abf5_6 ⟨Nat.zero_le _, Nat.zero_le _⟩) (fun H locs Y => ?_)
  refine lv_ishr hx hb dJ0_length_8abf5_9 ?_
  rw [sb_shr0]
  exact x_iret X Y dJ0_length_8abf5_10
theorem cJ_pc {l : Launch} {Γ : Gm} {i n : Int32} {v : Option Nat} (h0 : ¬ i < 0) (h1 : i < n) : CI l Γ yJ3_checkIndex_8e157 (Cond.code yJ3_checkIndex_8e157 cJ3_checkIndex_8e157 3 (some .int) :: GW) rmJ_pc [.int i, .int n, va_rf v] [] [] i := by
  refine ofBody (Qc := QcI Γ _ _ _) (by decide) (by cases v <;> exact Nat.le_of_ble_eq_true rfl) (fun p e s m below meth c ls _ X Y hl => ?_)
  have hx := X.1
  have hb := X.2.1
  have hl : lv_has ls 3 [(0, .int i), (1, .int n)] := by cases v <;> exact lv_sub hl [0, 1] rfl
  refine lv_iload_n hx hb dJ3_checkIndex_8e157_0 rfl (lv_at hl 0 rfl) ?_
  refine lv_if_lt (tgt := 9) hx hb dJ3_checkIndex_8e157_1 (by decide) (fun c9 => absurd c9 h0) (fun _ => ?_)
  refine lv_iload_n hx hb dJ3_checkIndex_8e157_4 rfl (lv_at hl 0 rfl) ?_
  refine lv_iload_n hx hb dJ3_checkIndex_8e157_5 rfl (lv_at hl 1 rfl) ?_
  refine lv_icmp_lt (tgt := 16) hx hb dJ3_checkIndex_8e157_6 (by decide) (fun _ => ?_) (fun c9 => absurd h1 c9)
  refine lv_iload_n hx hb dJ3_checkIndex_8e157_16 rfl (lv_at hl 0 rfl) ?_
  exact x_iret X Y dJ3_checkIndex_8e157_17
theorem cJ_ck {l : Launch} {Γ : Gm} {i n : Int32} (h0 : ¬ i < 0) (h1 : i < n) : CV l Γ yJ0_checkIndex_df160 (Cond.code yJ0_checkIndex_df160 cJ0_checkIndex_df160 2 none :: GW) rmJ_ck [.int i, .int n] [] [] := by
  refine ofBody (Qc := QcV Γ _ _) (by decide) (Nat.le_of_ble_eq_true rfl) (fun p e s m below meth c ls _ X Y hl => ?_)
  have hx := X.1
  have hb := X.2.1
  refine lv_iload_n hx hb dJ0_checkIndex_df160_0 rfl (lv_at hl 0 rfl) ?_
  refine lv_iload_n hx hb dJ0_checkIndex_df160_1 rfl (lv_at hl 1 rfl) ?_
  obtain ⟨v, hz⟩ : ∃ v : Option Nat, va_Z "jdk/internal/util/Preconditions" "SIOOBE_FORMATTER" "Ljava/util/function/BiFunction;" (va_rf v) (va_A [] s.heap.size) s s.heap := X.E.2.2.2.2.2.elim (fun h => ⟨none, h⟩) (fun ⟨t, h⟩ => ⟨some t, h⟩)
  refine va_gets hx hb hz Y.2.2 X.2.2.2.1 (X.2.2.2.2.1 _ kw681) (fun _ h => h) dJ0_checkIndex_df160_2 ?_
  refine t_i Y (bk0 Y) (r_S (As := [.int i, .int n, va_rf v]) (rest := []) X (c_pre0 X Y) (cJ_pc h0 h1) (cw_S (rm := rmJ_pc) (n := 3) X kw686 kw687 kw688 kw689 (by decide +kernel) rfl rfl (by decide)) rfl hl.1 (Nat.le_of_ble_eq_true rfl) rfl dJ0_checkIndex_df160_5 ⟨Nat.zero_le _, Nat.zero_le _⟩) (fun H locs Y => ?_)
  refine lv_pop hx hb dJ0_checkIndex_df160_8 rfl ?_
  exact x_vret X Y dJ0_checkIndex_df160_9
theorem cJ_lc {l : Launch} {Γ : Gm} {k : Nat} {i : Int32} (hk : k < 3) (hi : inb i (SLN.getD k 0) = true) : CI l Γ yJ1_charAt_3b067 (Cond.code yJ1_charAt_3b067 cJ1_charAt_3b067 2 (some .char) :: GW) rmJ_lc [.ref (Γ.2.2 (20 + k)), .int i] [] [] (J_ch k i) := by
  have hv := inb_in hi
  have h0 : ¬ i < 0 := fun h => hv (Or.inl h)
  have hlen : SLN.getD k 0 < 2 ^ 31 := by rcases (show k = 0 ∨ k = 1 ∨ k = 2 by omega) with rfl | rfl | rfl <;> decide
  have h1 : i < Int32.ofNat (SLN.getD k 0) := by
    obtain ⟨j, hj, rfl⟩ := vp_in_of hv hlen
    exact nI_lt hj hlen
  refine ofBody (Qc := QcI Γ _ _ _) (by decide) (Nat.le_of_ble_eq_true rfl) (fun p e s m below meth c ls _ X Y hl => ?_)
  have hx := X.1
  have hb := X.2.1
  refine lv_iload_n hx hb dJ1_charAt_3b067_0 rfl (lv_at hl 1 rfl) ?_
  refine lv_aload_n hx hb dJ1_charAt_3b067_1 rfl (lv_at hl 0 rfl) ?_
  refine va_tlen hx hb (X.E.2.2.1.1 k hk).2.2.2 Y.2.2 rfl dJ1_charAt_3b067_2 ?_
  refine t_v Y (bk0 Y) (r_S (As := [.int i, .int (Int32.ofNat (SLN.getD k 0))]) (rest := []) X (c_pre0 X Y) (cJ_ck h0 h1) (cw_S (rm := rmJ_ck) (n := 2) X kw690 kw691 kw410 kw692 (by decide +kernel) rfl rfl (by decide)) rfl hl.1 (Nat.le_of_ble_eq_true rfl) rfl dJ1_charAt_3b067_3 ⟨Nat.zero_le _, Nat.zero_le _⟩) (fun H locs Y => ?_)
  refine lv_aload_n hx hb dJ1_charAt_3b067_6 rfl (lv_at hl 0 rfl) ?_
  refine lv_iload_n hx hb dJ1_charAt_3b067_7 rfl (lv_at hl 1 rfl) ?_
  refine va_tb hx hb (X.E.2.2.1.1 k hk).2.2.2 Y.2.2 hv rfl dJ1_charAt_3b067_8 ?_
  refine lv_sipush (v := 255) hx hb dJ1_charAt_3b067_9 (by decide) ?_
  refine lv_iand hx hb dJ1_charAt_3b067_12 ?_
  refine lv_i2c hx hb dJ1_charAt_3b067_13 rfl ?_
  exact x_zret X Y (pk_nc _) dJ1_charAt_3b067_14
theorem cJ_charAt {l : Launch} {Γ : Gm} {k : Nat} {i r : Int32} (h : J_charAt k i = some r) : CI l Γ yJ0_charAt_5068e (Cond.code yJ0_charAt_5068e cJ0_charAt_5068e 2 (some .char) :: GW) rmJ_charAt [.ref (Γ.2.2 (10 + k)), .int i] [] [] r := by
  obtain ⟨hk, h⟩ := ck_some h
  obtain ⟨hi, h⟩ := ck_some h
  have hk := of_decide_eq_true hk
  have h := Option.some.inj h
  subst h
  refine ofBody (Qc := QcI Γ _ _ _) (by decide) (Nat.le_of_ble_eq_true rfl) (fun p e s m below meth c ls _ X Y hl => ?_)
  have hx := X.1
  have hb := X.2.1
  refine lv_aload_n hx hb dJ0_charAt_5068e_0 rfl (lv_at hl 0 rfl) ?_
  refine t_i Y (bk0 Y) (r_V (As := []) (rest := []) X (c_pre0 X Y) (cJ_isLatin1 hk) (cw_V (rm := rmJ_isLatin1) (n := 0) (C := RJ0) X kw693 kw694 kw695 kw410 kw696 (by decide +kernel) rfl rfl (by decide)) (vk_recv (adK := fun i => Γ.2.2 (10 + i)) (i := k) X.E.2.2.1 hk Y.2.2) rfl hl.1 (Nat.le_of_ble_eq_true rfl) rfl dJ0_charAt_5068e_1 ⟨Nat.zero_le _, Nat.zero_le _⟩) (fun H locs Y => ?_)
  refine lv_if_eq (tgt := 16) hx hb dJ0_charAt_5068e_4 (by decide) (fun c9 => absurd c9 (by decide)) (fun _ => ?_)
  refine lv_aload_n hx hb dJ0_charAt_5068e_7 rfl (lv_at hl 0 rfl) ?_
  refine vk_getf hx hb (X.E.2.2.1.1 k hk).2.2.1 Y.2.2 X.2.2.2.1 (X.2.2.2.2.1 _ kw680) (fun _ h => h) dJ0_charAt_5068e_8 ?_
  refine lv_iload_n hx hb dJ0_charAt_5068e_11 rfl (lv_at hl 1 rfl) ?_
  refine t_i Y (bk0 Y) (r_S (As := [.ref (Γ.2.2 (20 + k)), .int i]) (rest := []) X (c_pre0 X Y) (cJ_lc hk hi) (cw_S (rm := rmJ_lc) (n := 2) X kw697 kw698 kw699 kw700 (by decide +kernel) rfl rfl (by decide)) rfl hl.1 (Nat.le_of_ble_eq_true rfl) rfl dJ0_charAt_5068e_12 ⟨Nat.zero_le _, Nat.zero_le _⟩) (fun H locs Y => ?_)
  exact x_zret X Y (pk_nc _) dJ0_charAt_5068e_15
end
