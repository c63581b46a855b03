theorem kw1034 : Cond.instantiable RX11 14 ∈ GW := gw_mem 22 (by decide +kernel) (by decide +kernel)
theorem kw1035 : Cond.instantiable RX12 15 ∈ GW := gw_mem 778 (by decide +kernel) (by decide +kernel)
theorem kw1036 : Cond.classLink RL 7 RX11 ∈ GW := gw_mem 21 (by decide +kernel) (by decide +kernel)
theorem kw1037 : Cond.methodLink RL 9 yX11_init ∈ GW := gw_mem 23 (by decide +kernel) (by decide +kernel)
theorem kw1038 : Cond.instanceMethod yX11_init ∈ GW := gw_mem 24 (by decide +kernel) (by decide +kernel)
theorem kw1039 : Cond.code yX11_init cX11_init 2 none ∈ GW := gw_mem 25 (by decide +kernel) (by decide +kernel)
theorem kw1040 : Cond.classLink RL 10 RX12 ∈ GW := gw_mem 777 (by decide +kernel) (by decide +kernel)
theorem kw1041 : Cond.methodLink RL 12 yX12_init ∈ GW := gw_mem 779 (by decide +kernel) (by decide +kernel)
theorem kw1042 : Cond.instanceMethod yX12_init ∈ GW := gw_mem 780 (by decide +kernel) (by decide +kernel)
theorem kw1043 : Cond.code yX12_init cX12_init 1 none ∈ GW := gw_mem 781 (by decide +kernel) (by decide +kernel)
theorem st_0 {s : State} {args : Array Value} {A : Nat → Prop} (hT : ∀ w ∈ lw_tbl, w.before args s = true) (hW : ∀ w ∈ GW, w.before args s = true) (hgv : (Jvm.Cond.and given_1 narrow_1).before args s = true) (hA : ∀ a : Nat, a < s.heap.size → ¬ A a) : ∃ t : Nat, va_Z "ThrownOver" "SHIP_LEAST" "[I" (.ref t) A s s.heap ∧ va_T .int t 2 (fun j => .int (([0, 0] : List Int32).getD j 0)) A s s.heap := by
  have hs := flat_of_before _ hgv
  obtain ⟨t, h1, h2⟩ := va_Tof (tm := .static "ThrownOver" "SHIP_LEAST" "[I") (ty := .int) (N := 2) (f := fun j => .int (([0, 0] : List Int32).getD j 0)) (A := A) (by decide) (hs (Cond.arrayOf (.static "ThrownOver" "SHIP_LEAST" "[I") .int) (by decide +kernel)) (va_eqt (hs (Cond.eq (.length (.static "ThrownOver" "SHIP_LEAST" "[I")) (.int 2)) (by decide +kernel))) (fun j hj => by
    rcases (show j = 0 ∨ j = 1 by omega) with rfl | rfl
    · exact va_eqt (hs (Cond.eq (.elem (.static "ThrownOver" "SHIP_LEAST" "[I") (.int 0)) (.int 0)) (by decide +kernel))
    · exact va_eqt (hs (Cond.eq (.elem (.static "ThrownOver" "SHIP_LEAST" "[I") (.int 1)) (.int 0)) (by decide +kernel))) hA
  exact ⟨t, va_Zref (hT _ (List.mem_append_right _ (List.mem_of_getElem? (i := 278) (by decide +kernel)))) (hW _ kw220) h1 hA, h2⟩
theorem st_1 {s : State} {args : Array Value} {A : Nat → Prop} (hT : ∀ w ∈ lw_tbl, w.before args s = true) (hW : ∀ w ∈ GW, w.before args s = true) (hgv : (Jvm.Cond.and given_1 narrow_1).before args s = true) (hA : ∀ a : Nat, a < s.heap.size → ¬ A a) : ∃ t : Nat, va_Z "ThrownOver" "SHIP_MOST" "[I" (.ref t) A s s.heap ∧ va_T .int t 2 (fun j => .int (([99, 200] : List Int32).getD j 0)) A s s.heap := by
  have hs := flat_of_before _ hgv
  obtain ⟨t, h1, h2⟩ := va_Tof (tm := .static "ThrownOver" "SHIP_MOST" "[I") (ty := .int) (N := 2) (f := fun j => .int (([99, 200] : List Int32).getD j 0)) (A := A) (by decide) (hs (Cond.arrayOf (.static "ThrownOver" "SHIP_MOST" "[I") .int) (by decide +kernel)) (va_eqt (hs (Cond.eq (.length (.static "ThrownOver" "SHIP_MOST" "[I")) (.int 2)) (by decide +kernel))) (fun j hj => by
    rcases (show j = 0 ∨ j = 1 by omega) with rfl | rfl
    · exact va_eqt (hs (Cond.eq (.elem (.static "ThrownOver" "SHIP_MOST" "[I") (.int 0)) (.int 99)) (by decide +kernel))
    · exact va_eqt (hs (Cond.eq (.elem (.static "ThrownOver" "SHIP_MOST" "[I") (.int 1)) (.int 200)) (by decide +kernel))) hA
  exact ⟨t, va_Zref (hT _ (List.mem_append_right _ (List.mem_of_getElem? (i := 229) (by decide +kernel)))) (hW _ kw220) h1 hA, h2⟩
theorem st_2 {s : State} {args : Array Value} {A : Nat → Prop} (hT : ∀ w ∈ lw_tbl, w.before args s = true) (hW : ∀ w ∈ GW, w.before args s = true) (hgv : (Jvm.Cond.and given_1 narrow_1).before args s = true) (hA : ∀ a : Nat, a < s.heap.size → ¬ A a) : ∃ t : Nat, va_Z "ThrownOver" "GOODS_LEAST" "[I" (.ref t) A s s.heap ∧ va_T .int t 6 (fun j => .int (([0, 0, 0, 1, 0, 0] : List Int32).getD j 0)) A s s.heap := by
  have hs := flat_of_before _ hgv
  obtain ⟨t, h1, h2⟩ := va_Tof (tm := .static "ThrownOver" "GOODS_LEAST" "[I") (ty := .int) (N := 6) (f := fun j => .int (([0, 0, 0, 1, 0, 0] : List Int32).getD j 0)) (A := A) (by decide) (hs (Cond.arrayOf (.static "ThrownOver" "GOODS_LEAST" "[I") .int) (by decide +kernel)) (va_eqt (hs (Cond.eq (.length (.static "ThrownOver" "GOODS_LEAST" "[I")) (.int 6)) (by decide +kernel))) (fun j hj => by
    rcases (show j = 0 ∨ j = 1 ∨ j = 2 ∨ j = 3 ∨ j = 4 ∨ j = 5 by omega) with rfl | rfl | rfl | rfl | rfl | rfl
    · exact va_eqt (hs (Cond.eq (.elem (.static "ThrownOver" "GOODS_LEAST" "[I") (.int 0)) (.int 0)) (by decide +kernel))
    · exact va_eqt (hs (Cond.eq (.elem (.static "ThrownOver" "GOODS_LEAST" "[I") (.int 1)) (.int 0)) (by decide +kernel))
    · exact va_eqt (hs (Cond.eq (.elem (.static "ThrownOver" "GOODS_LEAST" "[I") (.int 2)) (.int 0)) (by decide +kernel))
    · exact va_eqt (hs (Cond.eq (.elem (.static "ThrownOver" "GOODS_LEAST" "[I") (.int 3)) (.int 1)) (by decide +kernel))
    · exact va_eqt (hs (Cond.eq (.elem (.static "ThrownOver" "GOODS_LEAST" "[I") (.int 4)) (.int 0)) (by decide +kernel))
    · exact va_eqt (hs (Cond.eq (.elem (.static "ThrownOver" "GOODS_LEAST" "[I") (.int 5)) (.int 0)) (by decide +kernel))) hA
  exact ⟨t, va_Zref (hT _ (List.mem_append_right _ (List.mem_of_getElem? (i := 298) (by decide +kernel)))) (hW _ kw220) h1 hA, h2⟩
theorem st_3 {s : State} {args : Array Value} {A : Nat → Prop} (hT : ∀ w ∈ lw_tbl, w.before args s = true) (hW : ∀ w ∈ GW, w.before args s = true) (hgv : (Jvm.Cond.and given_1 narrow_1).before args s = true) (hA : ∀ a : Nat, a < s.heap.size → ¬ A a) : ∃ t : Nat, va_Z "ThrownOver" "GOODS_MOST" "[I" (.ref t) A s s.heap ∧ va_T .int t 6 (fun j => .int (([5, 3, 2, 40, 60, 60] : List Int32).getD j 0)) A s s.heap := by
  have hs := flat_of_before _ hgv
  obtain ⟨t, h1, h2⟩ := va_Tof (tm := .static "ThrownOver" "GOODS_MOST" "[I") (ty := .int) (N := 6) (f := fun j => .int (([5, 3, 2, 40, 60, 60] : List Int32).getD j 0)) (A := A) (by decide) (hs (Cond.arrayOf (.static "ThrownOver" "GOODS_MOST" "[I") .int) (by decide +kernel)) (va_eqt (hs (Cond.eq (.length (.static "ThrownOver" "GOODS_MOST" "[I")) (.int 6)) (by decide +kernel))) (fun j hj => by
    rcases (show j = 0 ∨ j = 1 ∨ j = 2 ∨ j = 3 ∨ j = 4 ∨ j = 5 by omega) with rfl | rfl | rfl | rfl | rfl | rfl
    · exact va_eqt (hs (Cond.eq (.elem (.static "ThrownOver" "GOODS_MOST" "[I") (.int 0)) (.int 5)) (by decide +kernel))
    · exact va_eqt (hs (Cond.eq (.elem (.static "ThrownOver" "GOODS_MOST" "[I") (.int 1)) (.int 3)) (by decide +kernel))
    · exact va_eqt (hs (Cond.eq (.elem (.static "ThrownOver" "GOODS_MOST" "[I") (.int 2)) (.int 2)) (by decide +kernel))
    · exact va_eqt (hs (Cond.eq (.elem (.static "ThrownOver" "GOODS_MOST" "[I") (.int 3)) (.int 40)) (by decide +kernel))
    · exact va_eqt (hs (Cond.eq (.elem (.static "ThrownOver" "GOODS_MOST" "[I") (.int 4)) (.int 60)) (by decide +kernel))
    · exact va_eqt (hs (Cond.eq (.elem (.static "ThrownOver" "GOODS_MOST" "[I") (.int 5)) (.int 60)) (by decide +kernel))) hA
  exact ⟨t, va_Zref (hT _ (List.mem_append_right _ (List.mem_of_getElem? (i := 300) (by decide +kernel)))) (hW _ kw220) h1 hA, h2⟩
theorem st_4 {s : State} {args : Array Value} {A : Nat → Prop} (hT : ∀ w ∈ lw_tbl, w.before args s = true) (hW : ∀ w ∈ GW, w.before args s = true) (hgv : (Jvm.Cond.and given_1 narrow_1).before args s = true) (hA : ∀ a : Nat, a < s.heap.size → ¬ A a) : ∃ t : Nat, va_Z "ThrownOver" "SEEN_LEAST" "[I" (.ref t) A s s.heap ∧ va_T .int t 3 (fun j => .int (([1, 0, 0] : List Int32).getD j 0)) A s s.heap := by
  have hs := flat_of_before _ hgv
  obtain ⟨t, h1, h2⟩ := va_Tof (tm := .static "ThrownOver" "SEEN_LEAST" "[I") (ty := .int) (N := 3) (f := fun j => .int (([1, 0, 0] : List Int32).getD j 0)) (A := A) (by decide) (hs (Cond.arrayOf (.static "ThrownOver" "SEEN_LEAST" "[I") .int) (by decide +kernel)) (va_eqt (hs (Cond.eq (.length (.static "ThrownOver" "SEEN_LEAST" "[I")) (.int 3)) (by decide +kernel))) (fun j hj => by
    rcases (show j = 0 ∨ j = 1 ∨ j = 2 by omega) with rfl | rfl | rfl
    · exact va_eqt (hs (Cond.eq (.elem (.static "ThrownOver" "SEEN_LEAST" "[I") (.int 0)) (.int 1)) (by decide +kernel))
    · exact va_eqt (hs (Cond.eq (.elem (.static "ThrownOver" "SEEN_LEAST" "[I") (.int 1)) (.int 0)) (by decide +kernel))
    · exact va_eqt (hs (Cond.eq (.elem (.static "ThrownOver" "SEEN_LEAST" "[I") (.int 2)) (.int 0)) (by decide +kernel))) hA
  exact ⟨t, va_Zref (hT _ (List.mem_append_right _ (List.mem_of_getElem? (i := 681) (by decide +kernel)))) (hW _ kw220) h1 hA, h2⟩
theorem st_5 {s : State} {args : Array Value} {A : Nat → Prop} (hT : ∀ w ∈ lw_tbl, w.before args s = true) (hW : ∀ w ∈ GW, w.before args s = true) (hgv : (Jvm.Cond.and given_1 narrow_1).before args s = true) (hA : ∀ a : Nat, a < s.heap.size → ¬ A a) : ∃ t : Nat, va_Z "ThrownOver" "SEEN_MOST" "[I" (.ref t) A s s.heap ∧ va_T .int t 3 (fun j => .int (([40, 60, 3] : List Int32).getD j 0)) A s s.heap := by
  have hs := flat_of_before _ hgv
  obtain ⟨t, h1, h2⟩ := va_Tof (tm := .static "ThrownOver" "SEEN_MOST" "[I") (ty := .int) (N := 3) (f := fun j => .int (([40, 60, 3] : List Int32).getD j 0)) (A := A) (by decide) (hs (Cond.arrayOf (.static "ThrownOver" "SEEN_MOST" "[I") .int) (by decide +kernel)) (va_eqt (hs (Cond.eq (.length (.static "ThrownOver" "SEEN_MOST" "[I")) (.int 3)) (by decide +kernel))) (fun j hj => by
    rcases (show j = 0 ∨ j = 1 ∨ j = 2 by omega) with rfl | rfl | rfl
    · exact va_eqt (hs (Cond.eq (.elem (.static "ThrownOver" "SEEN_MOST" "[I") (.int 0)) (.int 40)) (by decide +kernel))
    · exact va_eqt (hs (Cond.eq (.elem (.static "ThrownOver" "SEEN_MOST" "[I") (.int 1)) (.int 60)) (by decide +kernel))
    · exact va_eqt (hs (Cond.eq (.elem (.static "ThrownOver" "SEEN_MOST" "[I") (.int 2)) (.int 3)) (by decide +kernel))) hA
  exact ⟨t, va_Zref (hT _ (List.mem_append_right _ (List.mem_of_getElem? (i := 683) (by decide +kernel)))) (hW _ kw220) h1 hA, h2⟩
theorem st_S {s : State} {args : Array Value} {A : Nat → Prop} (hgv : (Jvm.Cond.and given_1 narrow_1).before args s = true) (hA : ∀ a : Nat, a < s.heap.size → ¬ A a) : ∃ adK adV : Nat → Nat, vk_S 3 SLN SBY adK adV A s s.heap ∧ ∀ i : Nat, i < 3 → ((fun i => if i = 0 then Term.string "ThrownOver$Text" 115 else if i = 1 then Term.string "ThrownOver$Text" 121 else Term.string "ThrownOver$Text" 123) i).eval args s none [] s = some (.ref (adK i)) := by
  have hs := flat_of_before _ hgv
  exact vk_Sof (N := 3) (tm := (fun i => if i = 0 then Term.string "ThrownOver$Text" 115 else if i = 1 then Term.string "ThrownOver$Text" 121 else Term.string "ThrownOver$Text" 123)) (len := SLN) (byt := SBY) (A := A) (fun i hi => by
    rcases (show i = 0 ∨ i = 1 ∨ i = 2 by omega) with rfl | rfl | rfl
    · decide
    · decide
    · decide) (fun i hi => by
    rcases (show i = 0 ∨ i = 1 ∨ i = 2 by omega) with rfl | rfl | rfl
    · exact hs (Cond.exactly (.string "ThrownOver$Text" 115) "java/lang/String") (by decide +kernel)
    · exact hs (Cond.exactly (.string "ThrownOver$Text" 121) "java/lang/String") (by decide +kernel)
    · exact hs (Cond.exactly (.string "ThrownOver$Text" 123) "java/lang/String") (by decide +kernel)) (fun i hi => by
    rcases (show i = 0 ∨ i = 1 ∨ i = 2 by omega) with rfl | rfl | rfl
    · exact hs (Cond.eq (.field (.string "ThrownOver$Text" 115) "java/lang/String" "coder" "B") (.int 0)) (by decide +kernel)
    · exact hs (Cond.eq (.field (.string "ThrownOver$Text" 121) "java/lang/String" "coder" "B") (.int 0)) (by decide +kernel)
    · exact hs (Cond.eq (.field (.string "ThrownOver$Text" 123) "java/lang/String" "coder" "B") (.int 0)) (by decide +kernel)) (fun i hi => by
    rcases (show i = 0 ∨ i = 1 ∨ i = 2 by omega) with rfl | rfl | rfl
    · exact hs (Cond.arrayOf (.field (.string "ThrownOver$Text" 115) "java/lang/String" "value" "[B") .byte) (by decide +kernel)
    · exact hs (Cond.arrayOf (.field (.string "ThrownOver$Text" 121) "java/lang/String" "value" "[B") .byte) (by decide +kernel)
    · exact hs (Cond.arrayOf (.field (.string "ThrownOver$Text" 123) "java/lang/String" "value" "[B") .byte) (by decide +kernel)) (fun i hi => by
    rcases (show i = 0 ∨ i = 1 ∨ i = 2 by omega) with rfl | rfl | rfl
    · exact hs (Cond.eq (.length (.field (.string "ThrownOver$Text" 115) "java/lang/String" "value" "[B")) (.int 4)) (by decide +kernel)
    · exact hs (Cond.eq (.length (.field (.string "ThrownOver$Text" 121) "java/lang/String" "value" "[B")) (.int 5)) (by decide +kernel)
    · exact hs (Cond.eq (.length (.field (.string "ThrownOver$Text" 123) "java/lang/String" "value" "[B")) (.int 4)) (by decide +kernel)) (fun i hi j hj => by
    rcases (show i = 0 ∨ i = 1 ∨ i = 2 by omega) with rfl | rfl | rfl
    · have hj : j < 4 := hj
      rcases (show j = 0 ∨ j = 1 ∨ j = 2 ∨ j = 3 by omega) with rfl | rfl | rfl | rfl
      · exact hs (Cond.eq (.elem (.field (.string "ThrownOver$Text" 115) "java/lang/String" "value" "[B") (.int 0)) (.int 115)) (by decide +kernel)
      · exact hs (Cond.eq (.elem (.field (.string "ThrownOver$Text" 115) "java/lang/String" "value" "[B") (.int 1)) (.int 104)) (by decide +kernel)
      · exact hs (Cond.eq (.elem (.field (.string "ThrownOver$Text" 115) "java/lang/String" "value" "[B") (.int 2)) (.int 105)) (by decide +kernel)
      · exact hs (Cond.eq (.elem (.field (.string "ThrownOver$Text" 115) "java/lang/String" "value" "[B") (.int 3)) (.int 112)) (by decide +kernel)
    · have hj : j < 5 := hj
      rcases (show j = 0 ∨ j = 1 ∨ j = 2 ∨ j = 3 ∨ j = 4 by omega) with rfl | rfl | rfl | rfl | rfl
      · exact hs (Cond.eq (.elem (.field (.string "ThrownOver$Text" 121) "java/lang/String" "value" "[B") (.int 0)) (.int 103)) (by decide +kernel)
      · exact hs (Cond.eq (.elem (.field (.string "ThrownOver$Text" 121) "java/lang/String" "value" "[B") (.int 1)) (.int 111)) (by decide +kernel)
      · exact hs (Cond.eq (.elem (.field (.string "ThrownOver$Text" 121) "java/lang/String" "value" "[B") (.int 2)) (.int 111)) (by decide +kernel)
      · exact hs (Cond.eq (.elem (.field (.string "ThrownOver$Text" 121) "java/lang/String" "value" "[B") (.int 3)) (.int 100)) (by decide +kernel)
      · exact hs (Cond.eq (.elem (.field (.string "ThrownOver$Text" 121) "java/lang/String" "value" "[B") (.int 4)) (.int 115)) (by decide +kernel)
    · have hj : j < 4 := hj
      rcases (show j = 0 ∨ j = 1 ∨ j = 2 ∨ j = 3 by omega) with rfl | rfl | rfl | rfl
      · exact hs (Cond.eq (.elem (.field (.string "ThrownOver$Text" 123) "java/lang/String" "value" "[B") (.int 0)) (.int 111)) (by decide +kernel)
      · exact hs (Cond.eq (.elem (.field (.string "ThrownOver$Text" 123) "java/lang/String" "value" "[B") (.int 1)) (.int 118)) (by decide +kernel)
      · exact hs (Cond.eq (.elem (.field (.string "ThrownOver$Text" 123) "java/lang/String" "value" "[B") (.int 2)) (.int 101)) (by decide +kernel)
      · exact hs (Cond.eq (.elem (.field (.string "ThrownOver$Text" 123) "java/lang/String" "value" "[B") (.int 3)) (.int 114)) (by decide +kernel)) (fun i j hi hj hij => by
    rcases (show i = 0 ∨ i = 1 ∨ i = 2 by omega) with rfl | rfl | rfl <;> rcases (show j = 0 ∨ j = 1 ∨ j = 2 by omega) with rfl | rfl | rfl
    · exact absurd rfl hij
    · exact Or.inl (hs (Cond.not (Cond.eq (.string "ThrownOver$Text" 115) (.string "ThrownOver$Text" 121))) (by decide +kernel))
    · exact Or.inl (hs (Cond.not (Cond.eq (.string "ThrownOver$Text" 115) (.string "ThrownOver$Text" 123))) (by decide +kernel))
    · exact Or.inr (hs (Cond.not (Cond.eq (.string "ThrownOver$Text" 115) (.string "ThrownOver$Text" 121))) (by decide +kernel))
    · exact absurd rfl hij
    · exact Or.inl (hs (Cond.not (Cond.eq (.string "ThrownOver$Text" 121) (.string "ThrownOver$Text" 123))) (by decide +kernel))
    · exact Or.inr (hs (Cond.not (Cond.eq (.string "ThrownOver$Text" 115) (.string "ThrownOver$Text" 123))) (by decide +kernel))
    · exact Or.inr (hs (Cond.not (Cond.eq (.string "ThrownOver$Text" 121) (.string "ThrownOver$Text" 123))) (by decide +kernel))
    · exact absurd rfl hij) hA
theorem nw_of {w : Cond} (h : isNest w = true) {s : State} {args : Array Value} (hZ : w.before args s = true) : va_Nw w s := by
  cases w with
  | fieldLinkNest a b c d e f => exact va_Nw.of rfl hZ
  | methodLinkNest a b c d => exact va_Nw.of rfl hZ
  | castable a b => exact va_Nw.of rfl hZ
  | arrayOver ty =>
    cases ty with
    | object C => exact hZ
    | _ => cases h
  | _ => cases h
set_option maxHeartbeats 4000000 in
set_option maxRecDepth 100000 in
theorem whole_start {p : Program} {e : Env} {s : State} {m : MethodId} {below : List Frame} {meth : Method} {c : Code} (l : Launch) {b L : Nat} {xs : Nat → Int32} (hL : L ≤ 448) (C0 : lw_At p s m meth c b L xs) : W p l e room_1 s m #[Value.ref b] below meth c s.heap [] 0 0 (lw_Z below #[Value.ref b] s) (entryFrame m ([Value.ref b] : List Value).toArray 4) := by
  obtain ⟨hx, hb, hr, hml, hown, hts, hX, hbl, hlocks, hgv⟩ := id C0
  have hW : ∀ w ∈ GW, w.before #[Value.ref b] s = true := fun w h => hts w (gw_tbl w h)
  have hA0 : ∀ a : Nat, a < s.heap.size → ¬ va_A [] s.heap.size a := fun a ha h => h.elim (fun ⟨k, e, hk⟩ => by simp at hk) (fun h => absurd ha (Nat.not_lt.mpr h))
  obtain ⟨c0, i0, k0⟩ := u_known (C := RX0) (T := TX0) (N := 5) (n := 5) hW iX0 (hW _ kw767)
  obtain ⟨c1, i1, k1⟩ := u_known (C := RX1) (T := TX1) (N := 9) (n := 9) hW iX1 (hW _ kw756)
  obtain ⟨c2, i2, k2⟩ := u_known (C := RX2) (T := TX2) (N := 0) (n := 0) hW iX2 (hW _ kw727)
  obtain ⟨c3, i3, k3⟩ := u_known (C := RX3) (T := TX3) (N := 2) (n := 2) hW iX3 (hW _ kw777)
  obtain ⟨c4, i4, k4⟩ := u_known (C := RX4) (T := TX4) (N := 0) (n := 0) hW iX4 (hW _ kw747)
  obtain ⟨c5, i5, k5⟩ := u_known (C := RX5) (T := TX5) (N := 0) (n := 0) hW iX5 (hW _ kw731)
  obtain ⟨c6, i6, k6⟩ := u_known (C := RX6) (T := TX6) (N := 8) (n := 8) hW iX6 (hW _ kw772)
  obtain ⟨c7, i7, k7⟩ := u_known (C := RX7) (T := TX7) (N := 0) (n := 0) hW iX7 (hW _ kw741)
  obtain ⟨c8, i8, k8⟩ := u_known (C := RX8) (T := TX8) (N := 0) (n := 0) hW iX8 (hW _ kw724)
  obtain ⟨c9, i9, k9⟩ := u_known (C := RX9) (T := TX9) (N := 0) (n := 0) hW iX9 (hW _ kw737)
  obtain ⟨c10, i10, k10⟩ := u_known (C := RX10) (T := TX10) (N := 9) (n := 9) hW iX10 (hW _ kw762)
  obtain ⟨c11, i11, k11⟩ := u_known (C := RX11) (T := TX11) (N := 14) (n := 14) hW iX11 (hW _ kw1034)
  obtain ⟨c12, i12, k12⟩ := u_known (C := RX12) (T := TX12) (N := 15) (n := 15) hW iX12 (hW _ kw1035)
  obtain ⟨y0, z0, m0, f0, g0, q0⟩ := Cond.arrayClass_spec (hW _ kw716)
  obtain ⟨y1, z1, m1, f1, g1, q1⟩ := Cond.arrayClass_spec (hW _ kw720)
  obtain ⟨y2, z2, m2, f2, g2, q2⟩ := Cond.arrayClass_spec (hW _ kw753)
  have hNW : ∀ w ∈ NW, va_Nw w s := fun w h => nw_of (List.mem_filter.mp h).2 (hts w (List.mem_append_right _ (List.mem_filter.mp h).1))
  obtain ⟨m3, y3, z3, v3, -, g3, q3, f3⟩ := Cond.arrayOver_spec (hNW _ kw723)
  obtain ⟨m4, y4, z4, v4, -, g4, q4, f4⟩ := Cond.arrayOver_spec (hNW _ kw760)
  obtain ⟨t0, a0, b0⟩ := st_0 hts hW hgv hA0
  obtain ⟨t1, a1, b1⟩ := st_1 hts hW hgv hA0
  obtain ⟨t2, a2, b2⟩ := st_2 hts hW hgv hA0
  obtain ⟨t3, a3, b3⟩ := st_3 hts hW hgv hA0
  obtain ⟨t4, a4, b4⟩ := st_4 hts hW hgv hA0
  obtain ⟨t5, a5, b5⟩ := st_5 hts hW hgv hA0
  obtain ⟨adK, adV, hS3, hK3⟩ := st_S hgv hA0
  obtain ⟨Γ, hΓ⟩ : ∃ Γ : Gm, Γ = ((fun k => if k = 0 then c0 else if k = 1 then c1 else if k = 2 then c2 else if k = 3 then c3 else if k = 4 then c4 else if k = 5 then c5 else if k = 6 then c6 else if k = 7 then c7 else if k = 8 then c8 else if k = 9 then c9 else if k = 10 then c10 else if k = 11 then c11 else c12, fun k => if k = 0 then i0 else if k = 1 then i1 else if k = 2 then i2 else if k = 3 then i3 else if k = 4 then i4 else if k = 5 then i5 else if k = 6 then i6 else if k = 7 then i7 else if k = 8 then i8 else if k = 9 then i9 else if k = 10 then i10 else if k = 11 then i11 else i12), fun k => if k = 0 then y0 else if k = 1 then y1 else if k = 2 then y2 else if k = 3 then y3 else y4, fun k => if k < 6 then (if k = 0 then t0 else if k = 1 then t1 else if k = 2 then t2 else if k = 3 then t3 else if k = 4 then t4 else t5) else if k < 20 then adK (k - 10) else adV (k - 20)) := ⟨_, rfl⟩
  have hK : va_K Γ.1 vwCl (TY Γ) s := by
    subst hΓ
    refine ⟨fun k q hq => ?_, fun k q hq => ?_⟩
    · match k, hq with
      | 0, hq => cases hq; exact k0
      | 1, hq => cases hq; exact k1
      | 2, hq => cases hq; exact k2
      | 3, hq => cases hq; exact k3
      | 4, hq => cases hq; exact k4
      | 5, hq => cases hq; exact k5
      | 6, hq => cases hq; exact k6
      | 7, hq => cases hq; exact k7
      | 8, hq => cases hq; exact k8
      | 9, hq => cases hq; exact k9
      | 10, hq => cases hq; exact k10
      | 11, hq => cases hq; exact k11
      | 12, hq => cases hq; exact k12
      | k + 13, hq => simp [vwCl] at hq
    · match k, hq with
      | 0, hq => cases hq; exact ⟨fun n z => ⟨fun k h => (by cases h), z0, g0, m0, q0⟩, f0⟩
      | 1, hq => cases hq; exact ⟨fun n z => ⟨fun k h => (by cases h), z1, g1, m1, q1⟩, f1⟩
      | 2, hq => cases hq; exact ⟨fun n z => ⟨fun k h => (by cases h), z2, g2, m2, q2⟩, f2⟩
      | 3, hq => cases hq; exact ⟨fun n z => ⟨fun k h => (by cases h), z3, g3, m3, q3⟩, z3, m3, g3, q3, v3, f3⟩
      | 4, hq => cases hq; exact ⟨fun n z => ⟨fun k h => (by cases h), z4, g4, m4, q4⟩, z4, m4, g4, q4, v4, f4⟩
      | k + 5, hq => simp [TY] at hq
  have hE : EF Γ (va_A [] s.heap.size) s s.heap := by
    subst hΓ
    refine ⟨hNW, fun i q hq => ?_, ⟨fun i hi => ?_, fun i j hi hj he => ?_⟩, fun i q hq => ?_, va_Zof (hts _ (List.mem_append_right _ (List.mem_of_getElem? (i := 376) (by decide +kernel)))) (hW _ kw410) (va_eqi (flat_of_before _ hgv (Cond.eq (.static "java/lang/String" "COMPACT_STRINGS" "Z") (.int 1)) (by decide +kernel))) hA0, va_Zqof (hts _ (List.mem_append_right _ (List.mem_of_getElem? (i := 392) (by decide +kernel)))) (hW _ kw688) (flat_of_before _ hgv (Cond.isRef (.static "jdk/internal/util/Preconditions" "SIOOBE_FORMATTER" "Ljava/util/function/BiFunction;")) (by decide +kernel)) hA0⟩
    · match i, hq with
      | 0, hq => cases hq; exact ⟨a0, b0⟩
      | 1, hq => cases hq; exact ⟨a1, b1⟩
      | 2, hq => cases hq; exact ⟨a2, b2⟩
      | 3, hq => cases hq; exact ⟨a3, b3⟩
      | 4, hq => cases hq; exact ⟨a4, b4⟩
      | 5, hq => cases hq; exact ⟨a5, b5⟩
      | i + 6, hq => simp [STA] at hq
    · rcases (show i = 0 ∨ i = 1 ∨ i = 2 by omega) with rfl | rfl | rfl
      · exact hS3.1 0 (by decide)
      · exact hS3.1 1 (by decide)
      · exact hS3.1 2 (by decide)
    · rcases (show i = 0 ∨ i = 1 ∨ i = 2 by omega) with rfl | rfl | rfl <;> rcases (show j = 0 ∨ j = 1 ∨ j = 2 by omega) with rfl | rfl | rfl <;> exact hS3.2 _ _ (by decide) (by decide) he
    · match i, hq with
      | 0, hq => cases hq; exact vk_R.of (hts (Cond.stringRef "ThrownOver$Text" 115 "ship") (List.mem_append_right _ (List.mem_of_getElem? (i := 362) (by decide +kernel)))) (hK3 0 (by decide))
      | 1, hq => cases hq; exact vk_R.of (hts (Cond.stringRef "ThrownOver$Text" 121 "goods") (List.mem_append_right _ (List.mem_of_getElem? (i := 415) (by decide +kernel)))) (hK3 1 (by decide))
      | 2, hq => cases hq; exact vk_R.of (hts (Cond.stringRef "ThrownOver$Text" 123 "over") (List.mem_append_right _ (List.mem_of_getElem? (i := 416) (by decide +kernel)))) (hK3 2 (by decide))
      | i + 3, hq => simp [SRF] at hq
  clear hΓ
  have X : Cx Γ p s m #[Value.ref b] meth c RL code 4 ret [] := ⟨hx, hb, hml, hown, hW, hr, hlocks, hK, hE⟩
  have Y : Wd Γ [] s [] s.heap [] := ⟨fun k q h => by simp at h, ⟨fun i j p q h => by simp at h, fun k q h => by simp at h⟩, va_S.rf⟩
  have hl := lv_entry ([.ref b]) (n := 4) (Nat.le_of_ble_eq_true rfl)
  rw [lg_entry_eq]
  generalize (lg_sl ([.ref b]) ++ List.replicate (4 - (lg_sl ([.ref b])).length) Slot.unset).toArray = ls at hl ⊢
  have hl : lv_has ls 4 [(0, .ref b)] := hl
  refine x_new (ci := 11) (fs := [.null, .null, .null, .int 0, .null, .null, .null, .null, .null, .null, .null, .int 0, .int 0, .int 0]) X Y iX11 tyX11 tyX11_ok kw1036 kw1034 kw220 rfl (fun j hj => by rcases (show j = 0 ∨ j = 1 ∨ j = 2 ∨ j = 3 ∨ j = 4 ∨ j = 5 ∨ j = 6 ∨ j = 7 ∨ j = 8 ∨ j = 9 ∨ j = 10 ∨ j = 11 ∨ j = 12 ∨ j = 13 by omega) with rfl | rfl | rfl | rfl | rfl | rfl | rfl | rfl | rfl | rfl | rfl | rfl | rfl | rfl <;> rfl) (Nat.le_of_ble_eq_true rfl) (Nat.le_of_ble_eq_true rfl) dL_law_0 (fun q1 H Y => ?_)
  refine lv_dup hx hb dL_law_3 rfl ?_
  have Y : Wd Γ [] s [(q1, .inr (11, [.null, .null, .null, .int 0, .null, .null, .null, .null, .null, .null, .null, .int 0, .int 0, .int 0]))] H _ := Y
  refine t_n (wr := []) Y [0] [] rfl rfl rfl (by decide) (r_I (n := 0) (As := []) (rest := [.ref q1]) X (c_pre X Y [0] (wc := [(q1, .inr (11, [.null, .null, .null, .int 0, .null, .null, .null, .null, .null, .null, .null, .int 0, .int 0, .int 0]))]) rfl rfl) (cN_X11 l Γ q1) kw1037 kw1038 kw220 kw1039 rfl (by decide +kernel) rfl rfl (by decide) rfl hl.1 (Nat.le_of_ble_eq_true rfl) rfl dL_law_4 ⟨Nat.le_of_ble_eq_true rfl, Nat.le_of_ble_eq_true rfl⟩) (fun AA H locs e_A Y => ?_)
  have e_A : AA 0 0 = q1 := e_A
  rw [← e_A]
  have Y : Wd Γ [] s ((WX Γ (AA 0) (AA 1) (AA 2) (AA 3) (AA 4) (AA 5) (AA 6) (AA 7) (AA 8) 0 (fun _ => 0) (fun _ => 0) (fun _ => 0) 0 0 0) ++ ((WC Γ (AA 1) 20 60 0 0 0 0 (fun _ => 0) (fun _ => 0) (fun _ => 0)) ++ ((WC Γ (AA 2) 20 60 0 0 0 0 (fun _ => 0) (fun _ => 0) (fun _ => 0)) ++ ((WC Γ (AA 3) 20 60 0 0 0 0 (fun _ => 0) (fun _ => 0) (fun _ => 0)) ++ ((WC Γ (AA 4) 20 60 0 0 0 0 (fun _ => 0) (fun _ => 0) (fun _ => 0)) ++ ((WT Γ (AA 5) (fun _ => 0) (fun _ => 0) 0 0 0 0 0 0 0) ++ ((WB Γ (AA 6) 0 0 0 0) ++ ((WQ Γ (AA 7) (fun _ => 0) (fun _ => 0) (fun _ => 0) (fun _ => 0) 0 0 0 0) ++ (WF Γ (AA 8) 0 1))))))))) H locs := Y
  refine lv_astore_n (lv' := [(1, .ref (AA 0 0)), (0, .ref b)]) hx hb dL_law_7 rfl hl (by decide) rfl (fun ls hl => ?_)
  refine x_new (ci := 12) (fs := [.null, .null, .null, .int 0, .null, .long 0, .long 0, .int 0, .int 0, .int 0, .int 0, .null, .int 0, .int 0, .long 0]) X Y iX12 tyX12 tyX12_ok kw1040 kw1035 kw4 rfl (fun j hj => by rcases (show j = 0 ∨ j = 1 ∨ j = 2 ∨ j = 3 ∨ j = 4 ∨ j = 5 ∨ j = 6 ∨ j = 7 ∨ j = 8 ∨ j = 9 ∨ j = 10 ∨ j = 11 ∨ j = 12 ∨ j = 13 ∨ j = 14 by omega) with rfl | rfl | rfl | rfl | rfl | rfl | rfl | rfl | rfl | rfl | rfl | rfl | rfl | rfl | rfl <;> rfl) (Nat.le_of_ble_eq_true rfl) (Nat.le_of_ble_eq_true rfl) dL_law_8 (fun q2 H Y => ?_)
  refine lv_dup hx hb dL_law_11 rfl ?_
  obtain ⟨w1, hb0, hw1⟩ := M_begins_0
  refine t_n (wr := ((WX Γ (AA 0) (AA 1) (AA 2) (AA 3) (AA 4) (AA 5) (AA 6) (AA 7) (AA 8) 0 (fun _ => 0) (fun _ => 0) (fun _ => 0) 0 0 0) ++ ((WC Γ (AA 1) 20 60 0 0 0 0 (fun _ => 0) (fun _ => 0) (fun _ => 0)) ++ ((WC Γ (AA 2) 20 60 0 0 0 0 (fun _ => 0) (fun _ => 0) (fun _ => 0)) ++ ((WC Γ (AA 3) 20 60 0 0 0 0 (fun _ => 0) (fun _ => 0) (fun _ => 0)) ++ ((WC Γ (AA 4) 20 60 0 0 0 0 (fun _ => 0) (fun _ => 0) (fun _ => 0)) ++ ((WT Γ (AA 5) (fun _ => 0) (fun _ => 0) 0 0 0 0 0 0 0) ++ ((WB Γ (AA 6) 0 0 0 0) ++ ((WQ Γ (AA 7) (fun _ => 0) (fun _ => 0) (fun _ => 0) (fun _ => 0) 0 0 0 0) ++ (WF Γ (AA 8) 0 1)))))))))) Y [38] [0, 1, 2, 3, 4, 5, 6, 7, 8, 9, 10, 11, 12, 13, 14, 15, 16, 17, 18, 19, 20, 21, 22, 23, 24, 25, 26, 27, 28, 29, 30, 31, 32, 33, 34, 35, 36, 37] rfl rfl rfl (by decide) (r_I (n := 0) (As := []) (rest := [.ref q2]) X (c_pre X Y [38] (wc := [(q2, .inr (12, [.null, .null, .null, .int 0, .null, .long 0, .long 0, .int 0, .int 0, .int 0, .int 0, .null, .int 0, .int 0, .long 0]))]) rfl rfl) (cN_X12 l Γ q2 hb0) kw1041 kw1042 kw4 kw1043 rfl (by decide +kernel) rfl rfl (by decide) rfl hl.1 (Nat.le_of_ble_eq_true rfl) rfl dL_law_12 ⟨Nat.le_of_ble_eq_true rfl, Nat.le_of_ble_eq_true rfl⟩) (fun Am H locs e_A Y => ?_)
  have e_A : Am 0 = q2 := e_A
  rw [← e_A]
  have Y : Wd Γ [] s ((WX Γ (AA 0) (AA 1) (AA 2) (AA 3) (AA 4) (AA 5) (AA 6) (AA 7) (AA 8) 0 (fun _ => 0) (fun _ => 0) (fun _ => 0) 0 0 0) ++ ((WC Γ (AA 1) 20 60 0 0 0 0 (fun _ => 0) (fun _ => 0) (fun _ => 0)) ++ ((WC Γ (AA 2) 20 60 0 0 0 0 (fun _ => 0) (fun _ => 0) (fun _ => 0)) ++ ((WC Γ (AA 3) 20 60 0 0 0 0 (fun _ => 0) (fun _ => 0) (fun _ => 0)) ++ ((WC Γ (AA 4) 20 60 0 0 0 0 (fun _ => 0) (fun _ => 0) (fun _ => 0)) ++ ((WT Γ (AA 5) (fun _ => 0) (fun _ => 0) 0 0 0 0 0 0 0) ++ ((WB Γ (AA 6) 0 0 0 0) ++ ((WQ Γ (AA 7) (fun _ => 0) (fun _ => 0) (fun _ => 0) (fun _ => 0) 0 0 0 0) ++ ((WF Γ (AA 8) 0 1) ++ (WM Γ Am w1 (fun _ => 0) (fun _ => 0) 0 (fun _ => 0) 0 1 0 0 0 0 (fun _ => 0) 0 0 0)))))))))) H locs := Y
  refine lv_astore_n (lv' := [(2, .ref (Am 0)), (1, .ref (AA 0 0)), (0, .ref b)]) hx hb dL_law_15 rfl hl (by decide) rfl (fun ls hl => ?_)
  refine lv_iconst (v := 0) hx hb dL_law_16 (by decide) ?_
  refine lv_istore_n (lv' := [(3, .int 0), (2, .ref (Am 0)), (1, .ref (AA 0 0)), (0, .ref b)]) hx hb dL_law_17 rfl hl (by decide) rfl (fun ls hl => ?_)
  refine W.widen (k := 600000) (n := 7302250) (Nat.le_of_ble_eq_true rfl) (Nat.le_of_ble_eq_true rfl) ?_
  exact law_loop hL X hlocks hX hbl (L + 7) 0 _ _ _ _ _ _ _ _ _ _ _ _ _ _ _ _ _ _ _ _ _ _ _ _ _ _ _ _ _ _ _ _ _ _ _ _ _ _ _ _ _ _ _ _ _ _ _ _ _ _ _ _ _ _ _ _ _ _ _ _ _ _ _ _ _ _ _ _ _ _ _ _ _ _ _ _ _ _ _ _ _ (by omega) (by omega) (rel_0 hw1) _ _ _ Y (lv_sub hl [3, 2, 1, 0] rfl)
