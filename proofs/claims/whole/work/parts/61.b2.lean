/-! PURE: ship, tells, seen, forget, images -/
theorem aw2_0 (f : Nat) (rw : Nat → Int32) : X_allWithin2_L18 (f + 1) 0 rw = bd1 (X_within (rw 0) 0 99) (fun r => if r = 0 then some 0 else X_allWithin2_L18 f 1 rw) := rfl
theorem aw2_1 (f : Nat) (rw : Nat → Int32) : X_allWithin2_L18 (f + 1) 1 rw = bd1 (X_within (rw 1) 0 200) (fun r => if r = 0 then some 0 else X_allWithin2_L18 f 2 rw) := rfl
theorem aw2 (rw : Nat → Int32) : X_allWithin2 rw = some (if (0 ≤ rw 0 ∧ rw 0 ≤ 99) ∧ (0 ≤ rw 1 ∧ rw 1 ≤ 200) then 1 else 0) := by
  show X_allWithin2_L18 (997 + 3) 0 rw = _
  rw [show 997 + 3 = (997 + 2) + 1 from rfl, aw2_0, within_w]
  simp only [bd1, ite_10]
  by_cases h0 : 0 ≤ rw 0 ∧ rw 0 ≤ 99
  case neg => rw [if_neg h0, if_neg (fun h => h0 h.1)]
  rw [if_pos h0]
  rw [show 997 + 2 = (997 + 1) + 1 from rfl, aw2_1, within_w]
  simp only [bd1, ite_10]
  by_cases h1 : 0 ≤ rw 1 ∧ rw 1 ≤ 200
  case neg => rw [if_neg h1, if_neg (fun h => h1 h.2)]
  rw [if_pos h1]
  rw [if_pos ⟨h0, h1⟩]
  rfl
theorem aw6_0 (f : Nat) (rw : Nat → Int32) : X_allWithin6_L18 (f + 1) 0 rw = bd1 (X_within (rw 0) 0 5) (fun r => if r = 0 then some 0 else X_allWithin6_L18 f 1 rw) := rfl
theorem aw6_1 (f : Nat) (rw : Nat → Int32) : X_allWithin6_L18 (f + 1) 1 rw = bd1 (X_within (rw 1) 0 3) (fun r => if r = 0 then some 0 else X_allWithin6_L18 f 2 rw) := rfl
theorem aw6_2 (f : Nat) (rw : Nat → Int32) : X_allWithin6_L18 (f + 1) 2 rw = bd1 (X_within (rw 2) 0 2) (fun r => if r = 0 then some 0 else X_allWithin6_L18 f 3 rw) := rfl
theorem aw6_3 (f : Nat) (rw : Nat → Int32) : X_allWithin6_L18 (f + 1) 3 rw = bd1 (X_within (rw 3) 1 40) (fun r => if r = 0 then some 0 else X_allWithin6_L18 f 4 rw) := rfl
theorem aw6_4 (f : Nat) (rw : Nat → Int32) : X_allWithin6_L18 (f + 1) 4 rw = bd1 (X_within (rw 4) 0 60) (fun r => if r = 0 then some 0 else X_allWithin6_L18 f 5 rw) := rfl
theorem aw6_5 (f : Nat) (rw : Nat → Int32) : X_allWithin6_L18 (f + 1) 5 rw = bd1 (X_within (rw 5) 0 60) (fun r => if r = 0 then some 0 else X_allWithin6_L18 f 6 rw) := rfl
theorem aw6 (rw : Nat → Int32) : X_allWithin6 rw = some (if (0 ≤ rw 0 ∧ rw 0 ≤ 5) ∧ (0 ≤ rw 1 ∧ rw 1 ≤ 3) ∧ (0 ≤ rw 2 ∧ rw 2 ≤ 2) ∧ (1 ≤ rw 3 ∧ rw 3 ≤ 40) ∧ (0 ≤ rw 4 ∧ rw 4 ≤ 60) ∧ (0 ≤ rw 5 ∧ rw 5 ≤ 60) then 1 else 0) := by
  show X_allWithin6_L18 (993 + 7) 0 rw = _
  rw [show 993 + 7 = (993 + 6) + 1 from rfl, aw6_0, within_w]
  simp only [bd1, ite_10]
  by_cases h0 : 0 ≤ rw 0 ∧ rw 0 ≤ 5
  case neg => rw [if_neg h0, if_neg (fun h => h0 h.1)]
  rw [if_pos h0]
  rw [show 993 + 6 = (993 + 5) + 1 from rfl, aw6_1, within_w]
  simp only [bd1, ite_10]
  by_cases h1 : 0 ≤ rw 1 ∧ rw 1 ≤ 3
  case neg => rw [if_neg h1, if_neg (fun h => h1 h.2.1)]
  rw [if_pos h1]
  rw [show 993 + 5 = (993 + 4) + 1 from rfl, aw6_2, within_w]
  simp only [bd1, ite_10]
  by_cases h2 : 0 ≤ rw 2 ∧ rw 2 ≤ 2
  case neg => rw [if_neg h2, if_neg (fun h => h2 h.2.2.1)]
  rw [if_pos h2]
  rw [show 993 + 4 = (993 + 3) + 1 from rfl, aw6_3, within_w]
  simp only [bd1, ite_10]
  by_cases h3 : 1 ≤ rw 3 ∧ rw 3 ≤ 40
  case neg => rw [if_neg h3, if_neg (fun h => h3 h.2.2.2.1)]
  rw [if_pos h3]
  rw [show 993 + 3 = (993 + 2) + 1 from rfl, aw6_4, within_w]
  simp only [bd1, ite_10]
  by_cases h4 : 0 ≤ rw 4 ∧ rw 4 ≤ 60
  case neg => rw [if_neg h4, if_neg (fun h => h4 h.2.2.2.2.1)]
  rw [if_pos h4]
  rw [show 993 + 2 = (993 + 1) + 1 from rfl, aw6_5, within_w]
  simp only [bd1, ite_10]
  by_cases h5 : 0 ≤ rw 5 ∧ rw 5 ≤ 60
  case neg => rw [if_neg h5, if_neg (fun h => h5 h.2.2.2.2.2)]
  rw [if_pos h5]
  rw [if_pos ⟨h0, h1, h2, h3, h4, h5⟩]
  rfl
theorem aw3_0 (f : Nat) (rw : Nat → Int32) : X_allWithin3_L18 (f + 1) 0 rw = bd1 (X_within (rw 0) 1 40) (fun r => if r = 0 then some 0 else X_allWithin3_L18 f 1 rw) := rfl
theorem aw3_1 (f : Nat) (rw : Nat → Int32) : X_allWithin3_L18 (f + 1) 1 rw = bd1 (X_within (rw 1) 0 60) (fun r => if r = 0 then some 0 else X_allWithin3_L18 f 2 rw) := rfl
theorem aw3_2 (f : Nat) (rw : Nat → Int32) : X_allWithin3_L18 (f + 1) 2 rw = bd1 (X_within (rw 2) 0 3) (fun r => if r = 0 then some 0 else X_allWithin3_L18 f 3 rw) := rfl
theorem aw3 (rw : Nat → Int32) : X_allWithin3 rw = some (if (1 ≤ rw 0 ∧ rw 0 ≤ 40) ∧ (0 ≤ rw 1 ∧ rw 1 ≤ 60) ∧ (0 ≤ rw 2 ∧ rw 2 ≤ 3) then 1 else 0) := by
  show X_allWithin3_L18 (996 + 4) 0 rw = _
  rw [show 996 + 4 = (996 + 3) + 1 from rfl, aw3_0, within_w]
  simp only [bd1, ite_10]
  by_cases h0 : 1 ≤ rw 0 ∧ rw 0 ≤ 40
  case neg => rw [if_neg h0, if_neg (fun h => h0 h.1)]
  rw [if_pos h0]
  rw [show 996 + 3 = (996 + 2) + 1 from rfl, aw3_1, within_w]
  simp only [bd1, ite_10]
  by_cases h1 : 0 ≤ rw 1 ∧ rw 1 ≤ 60
  case neg => rw [if_neg h1, if_neg (fun h => h1 h.2.1)]
  rw [if_pos h1]
  rw [show 996 + 2 = (996 + 1) + 1 from rfl, aw3_2, within_w]
  simp only [bd1, ite_10]
  by_cases h2 : 0 ≤ rw 2 ∧ rw 2 ≤ 3
  case neg => rw [if_neg h2, if_neg (fun h => h2 h.2.2)]
  rw [if_pos h2]
  rw [if_pos ⟨h0, h1, h2⟩]
  rfl
theorem mgoods_w {w : Nat → Int32} {n : Nat} (h0 : w 0 = nI n) (hn : n ≤ 8) (a : Int32) : M_isGoods a w = some (if 0 ≤ a ∧ a < nI n then 1 else 0) := by
  unfold M_isGoods
  rw [h0, show M_in a.toInt64 0 (nI n - 1).toInt64 = _ from in_w a 0 (nI n - 1)]
  simp only [bd1, bo_ite, ck]
  have e1 : (nI n - 1).toInt = (n : Int) - 1 := pk_sub_toInt (a := n) (b := 1) (by omega) (by omega)
  have e2 : (nI n).toInt = n := nI_toInt (by omega)
  have : (a ≤ nI n - 1) ↔ a < nI n := by
    rw [Int32.le_iff_toInt_le, Int32.lt_iff_toInt_lt, e1, e2]
    omega
  simp only [this]
/-- a number of goods -/
theorem gno {a : Int32} {n : Nat} (hn : n < 2 ^ 31) (h : 0 ≤ a ∧ a < nI n) : ∃ k : Nat, k < n ∧ a = nI k := by
  obtain ⟨j, hj, rfl⟩ := nI_of (Int32.not_lt.mpr h.1)
  exact ⟨j, (nI_ltI hj hn).mp h.2, rfl⟩
theorem B_ship {xik : Int32} {xns : Nat → Int32} {xbc : Int32} {xnc : Int32} {xfc : Int32} {csw : Int32} {cca : Int32} {csi : Int32} {cab : Int32} {cun : Int32} {csg : Int32} {cfa : Nat → Int32} {che : Nat → Int32} {cst : Nat → Int32} {isw : Int32} {ica : Int32} {isi : Int32} {iab : Int32} {iun : Int32} {isg : Int32} {ifa : Nat → Int32} {ihe : Nat → Int32} {ist : Nat → Int32} {jsw : Int32} {jca : Int32} {jsi : Int32} {jab : Int32} {jun : Int32} {jsg : Int32} {jfa : Nat → Int32} {jhe : Nat → Int32} {jst : Nat → Int32} {tby : Nat → Int32} {tln : Int32} {qbi : Nat → Int32} {qhv : Nat → Int32} {qwo : Nat → Int32} {fab : Int64} {fbe : Int64} {w : Nat → Int32} {kp : Nat → Int32} {tx : Nat → Int32} {td : Int32} {rf : Nat → Int32} {fa : Int64} {fb : Int64} (hR : Rel xik xbc xnc xfc csw cca csi cab cun csg cfa che cst isw ica isi iab iun isg ifa ihe ist jsw jca jsi jab jun jsg jfa jhe jst tby tln qbi qhv qwo fab fbe w kp tx td rf fa fb) (a1 : Int32) (a2 : Int32) : ∃ (r0 : Int32) (xns_z : Nat → Int32) (xbc_z : Int32) (xnc_z : Int32) (xfc_z : Int32) (csw_z : Int32) (cca_z : Int32) (csi_z : Int32) (cab_z : Int32) (cun_z : Int32) (csg_z : Int32) (w_z : Nat → Int32) (rf_z : Nat → Int32), X_ship a1 a2 xns xbc xnc xfc csw cca csi cab cun csg = some (r0, xns_z, xbc_z, xnc_z, xfc_z, csw_z, cca_z, csi_z, cab_z, cun_z, csg_z) ∧ M_ship a1 a2 w rf = some (r0, w_z, rf_z) ∧ Rel xik xbc_z xnc_z xfc_z csw_z cca_z csi_z cab_z cun_z csg_z cfa che cst isw ica isi iab iun isg ifa ihe ist jsw jca jsi jab jun jsg jfa jhe jst tby tln qbi qhv qwo fab fbe w_z kp tx td rf_z fa fb := by
  obtain ⟨hC, hI, hT, hF, hS, hQ⟩ := hR
  obtain ⟨n, u, g, b, sv, cv, K, f, hh, hn, hu, hg, hb, hsv, hcv, rfl, rfl, rfl, rfl, rfl, rfl, w0, w1, w2, w3, w4, w5, hK, -⟩ := id hC
  unfold X_ship M_ship
  rw [show M_in a1.toInt64 0 99 = _ from in_w a1 0 99, show M_in a2.toInt64 0 200 = _ from in_w a2 0 200]
  simp only [bnd]
  rw [aw2]
  simp only [bd1, ite_10]
  have e0 : upd (upd xns 0 a1) 1 a2 0 = a1 := rfl
  have e1 : upd (upd xns 0 a1) 1 a2 1 = a2 := rfl
  rw [e0, e1]
  by_cases h1 : 0 ≤ a1 ∧ a1 ≤ 99
  · rw [if_pos h1]
    by_cases h2 : 0 ≤ a2 ∧ a2 ≤ 200
    · rw [if_pos ⟨h1, h2⟩, if_pos h2, show (0 : Int32) = nI 0 from rfl, begins_N (by omega)]
      obtain ⟨v1, hv1, rfl⟩ := rng (m := 99) rfl h1
      obtain ⟨v2, hv2, rfl⟩ := rng (m := 200) rfl h2
      rw [w0]
      refine ⟨_, _, _, _, _, _, _, _, _, _, _, _, _, rfl, rfl, RC_new hv1 hv2 rfl rfl rfl rfl rfl rfl, hI.cong (fun i hi _ => ?_), hT, hF, hS, hQ⟩
      rw [pk_un (by omega), pk_un (by omega)]
      exact if_neg (by omega)
    · rw [if_neg (fun h => h2 h.2), if_neg h2, rx_bad]
      unfold M_ship_24
      rw [rm_bad]
      exact ⟨_, _, _, _, _, _, _, _, _, _, _, _, _, rfl, rfl, hC, hI, hT, hF, st_bad hS, hQ⟩
  · rw [if_neg (fun h => h1 h.1), if_neg h1, rx_bad]
    unfold M_ship_24
    rw [rm_bad]
    exact ⟨_, _, _, _, _, _, _, _, _, _, _, _, _, rfl, rfl, hC, hI, hT, hF, st_bad hS, hQ⟩
theorem B_forget {xik : Int32} {xbc : Int32} {xnc : Int32} {xfc : Int32} {csw : Int32} {cca : Int32} {csi : Int32} {cab : Int32} {cun : Int32} {csg : Int32} {cfa : Nat → Int32} {che : Nat → Int32} {cst : Nat → Int32} {isw : Int32} {ica : Int32} {isi : Int32} {iab : Int32} {iun : Int32} {isg : Int32} {ifa : Nat → Int32} {ihe : Nat → Int32} {ist : Nat → Int32} {jsw : Int32} {jca : Int32} {jsi : Int32} {jab : Int32} {jun : Int32} {jsg : Int32} {jfa : Nat → Int32} {jhe : Nat → Int32} {jst : Nat → Int32} {tby : Nat → Int32} {tln : Int32} {qbi : Nat → Int32} {qhv : Nat → Int32} {qwo : Nat → Int32} {fab : Int64} {fbe : Int64} {w : Nat → Int32} {kp : Nat → Int32} {tx : Nat → Int32} {td : Int32} {rf : Nat → Int32} {fa : Int64} {fb : Int64} (hR : Rel xik xbc xnc xfc csw cca csi cab cun csg cfa che cst isw ica isi iab iun isg ifa ihe ist jsw jca jsi jab jun jsg jfa jhe jst tby tln qbi qhv qwo fab fbe w kp tx td rf fa fb) : ∃ (r0 : Int32) (csg_z : Int32) (w_z : Nat → Int32), X_forget csg = some (r0, csg_z) ∧ M_forget w = some (r0, w_z) ∧ Rel xik xbc xnc xfc csw cca csi cab cun csg_z cfa che cst isw ica isi iab iun isg ifa ihe ist jsw jca jsi jab jun jsg jfa jhe jst tby tln qbi qhv qwo fab fbe w_z kp tx td rf fa fb := by
  obtain ⟨hC, hI, hT, hF, hS, hQ⟩ := hR
  obtain ⟨n, u, g, b, sv, cv, K, f, hh, hn, hu, hg, hb, hsv, hcv, rfl, rfl, rfl, rfl, rfl, rfl, w0, w1, w2, w3, w4, w5, hK, hKB, hst, hfu, hf⟩ := id hC
  unfold X_forget M_forget
  simp only [bnd]
  simp only [Nat.zero_add] at w3
  rw [w3]
  refine ⟨_, _, _, rfl, rfl, ?_, hI.cong (fun i hi _ => pk_un (by omega)), hT, hF, hS, hQ⟩
  refine ⟨n, u, 0, b, sv, cv, K, f, hh, hn, hu, by omega, hb, hsv, hcv, rfl, rfl, rfl, rfl, rfl, rfl, ?_, ?_, ?_, rfl, ?_, ?_, ?_, hKB, fun i hi => absurd hi (by omega), hfu, ?_⟩
  · rw [pk_un (by omega)]; exact w0
  · rw [pk_un (by omega)]; exact w1
  · rw [pk_un (by omega)]; exact w2
  · rw [pk_un (by omega)]; exact w4
  · rw [pk_un (by omega)]; exact w5
  · intro k j hk hj
    rw [pk_un (by omega)]
    exact hK k j hk hj
  · intro i hi
    rw [pk_un (by omega)]
    exact hf i hi
theorem B_tells {xik : Int32} {xbc : Int32} {xnc : Int32} {xfc : Int32} {csw : Int32} {cca : Int32} {csi : Int32} {cab : Int32} {cun : Int32} {csg : Int32} {cfa : Nat → Int32} {che : Nat → Int32} {cst : Nat → Int32} {isw : Int32} {ica : Int32} {isi : Int32} {iab : Int32} {iun : Int32} {isg : Int32} {ifa : Nat → Int32} {ihe : Nat → Int32} {ist : Nat → Int32} {jsw : Int32} {jca : Int32} {jsi : Int32} {jab : Int32} {jun : Int32} {jsg : Int32} {jfa : Nat → Int32} {jhe : Nat → Int32} {jst : Nat → Int32} {tby : Nat → Int32} {tln : Int32} {qbi : Nat → Int32} {qhv : Nat → Int32} {qwo : Nat → Int32} {fab : Int64} {fbe : Int64} {w : Nat → Int32} {kp : Nat → Int32} {tx : Nat → Int32} {td : Int32} {rf : Nat → Int32} {fa : Int64} {fb : Int64} (hR : Rel xik xbc xnc xfc csw cca csi cab cun csg cfa che cst isw ica isi iab iun isg ifa ihe ist jsw jca jsi jab jun jsg jfa jhe jst tby tln qbi qhv qwo fab fbe w kp tx td rf fa fb) (a1 : Int32) (a2 : Int32) : ∃ (r0 : Int32) (xbc_z : Int32) (xnc_z : Int32) (xfc_z : Int32) (cfa_z : Nat → Int32) (w_z : Nat → Int32) (rf_z : Nat → Int32), X_tells a1 a2 xbc xnc xfc csi cfa = some (r0, xbc_z, xnc_z, xfc_z, cfa_z) ∧ M_tells a1 a2 w rf = some (r0, w_z, rf_z) ∧ Rel xik xbc_z xnc_z xfc_z csw cca csi cab cun csg cfa_z che cst isw ica isi iab iun isg ifa ihe ist jsw jca jsi jab jun jsg jfa jhe jst tby tln qbi qhv qwo fab fbe w_z kp tx td rf_z fa fb := by
  obtain ⟨hC, hI, hT, hF, hS, hQ⟩ := hR
  obtain ⟨n, u, g, b, sv, cv, K, f, hh, hn, hu, hg, hb, hsv, hcv, rfl, rfl, rfl, rfl, rfl, rfl, w0, w1, w2, w3, w4, w5, hK, hKB, hst, hfu, hf⟩ := id hC
  have hc : GCv n K cfa := fun k j hk hj => (hK k j hk hj).1
  have hm : GMv n K w 0 := fun k j hk hj => (hK k j hk hj).2
  unfold X_tells M_tells
  rw [chas_w a1 (by omega), mgoods_w (by simpa using w0) hn, within_w, show M_in a2.toInt64 0 60 = _ from in_w a2 0 60]
  simp only [bd1, ite_10]
  by_cases h1 : 0 ≤ a1 ∧ a1 < nI n
  · rw [if_pos h1, if_pos h1]
    by_cases h2 : 0 ≤ a2 ∧ a2 ≤ 60
    · obtain ⟨k, hk, rfl⟩ := gno (by omega) h1
      obtain ⟨v, hv, rfl⟩ := rng (m := 60) rfl h2
      rw [if_pos h2, if_pos h2, show (5 : Int32) = nI 5 from rfl, fact_N hc hn hk (by omega)]
      unfold C_retell
      rw [chas_N (by omega) (by omega)]
      simp only [bd1, ite_10, if_pos hk]
      rw [show (6 : Int32) = nI 6 from rfl, show (5 : Int32) = nI 5 from rfl, show (46 : Int32) = nI 46 from rfl, pk_mul, nI_add, nI_add, inb_t (by omega) (by omega), inb_t (by omega) (by omega), nI_clamp (by omega), nI_clamp (by omega)]
      simp only [ck, bnd]
      have e1 : w (46 + k) = nI (K k 5) := by have := hm k 5 hk (by omega); rwa [show 0 + (6 + 8 * 5 + k) = 46 + k by omega] at this
      rw [e1]
      refine ⟨_, _, _, _, _, _, _, rfl, rfl, ?_, hI.cong (fun i hi _ => pk_un (by omega)), hT, hF, hS, hQ⟩
      refine ⟨n, u, g, b, sv, cv, fun k2 j2 => if k2 = k ∧ j2 = 5 then v else K k2 j2, f, hh, hn, hu, hg, hb, hsv, hcv, rfl, rfl, rfl, rfl, rfl, rfl, ?_, ?_, ?_, ?_, ?_, ?_, ?_, ?_, ?_, hfu, ?_⟩
      · rw [pk_un (by omega)]; exact w0
      · rw [pk_un (by omega)]; exact w1
      · rw [pk_un (by omega)]; exact w2
      · rw [pk_un (by omega)]; exact w3
      · rw [pk_un (by omega)]; exact w4
      · rw [pk_un (by omega)]; exact w5
      · intro k2 j2 hk2 hj2
        dsimp only
        by_cases he : k2 = k ∧ j2 = 5
        · obtain ⟨rfl, rfl⟩ := he
          rw [if_pos (show k2 = k2 ∧ 5 = 5 from ⟨rfl, rfl⟩), show 6 * k2 + 5 = k2 * 6 + 5 by omega, show 0 + (6 + 8 * 5 + k2) = 46 + k2 by omega]
          exact ⟨pk_us, pk_us⟩
        · rw [if_neg he, pk_un (by omega), pk_un (by omega)]
          exact hK k2 j2 hk2 hj2
      · intro k2 hk2
        obtain ⟨q0, q1, q2, q3, q4, q5, q6⟩ := hKB k2 hk2
        dsimp only
        refine ⟨?_, ?_, ?_, ?_, ?_, ?_, ?_⟩
        · rw [if_neg (by omega)]; exact q0
        · rw [if_neg (by omega)]; exact q1
        · rw [if_neg (by omega)]; exact q2
        · rw [if_neg (by omega)]; exact q3
        · rw [if_neg (by omega)]; exact q4
        · rw [if_neg (by omega)]; exact q5
        · split
          · exact hv
          · exact q6
      · intro i hi
        rw [pk_un (by omega)]
        exact hst i hi
      · intro i hi
        rw [pk_un (by omega)]
        exact hf i hi
    · rw [if_neg h2, if_neg h2]
      unfold X_tells_21 M_tells_20
      rw [rx_bad, rm_bad]
      exact ⟨_, _, _, _, _, _, _, rfl, rfl, hC, hI, hT, hF, st_bad hS, hQ⟩
  · rw [if_neg h1, if_neg h1]
    unfold X_tells_21 M_tells_20
    rw [rx_bad, rm_bad]
    exact ⟨_, _, _, _, _, _, _, rfl, rfl, hC, hI, hT, hF, st_bad hS, hQ⟩
theorem cpb3 : ∀ g, g < 6 → cpb 0 (nI (g * 3)) (nI 3) 3 18 = true := by decide +kernel
theorem B_seen {xik : Int32} {xnn : Nat → Int32} {xbc : Int32} {xnc : Int32} {xfc : Int32} {csw : Int32} {cca : Int32} {csi : Int32} {cab : Int32} {cun : Int32} {csg : Int32} {cfa : Nat → Int32} {che : Nat → Int32} {cst : Nat → Int32} {isw : Int32} {ica : Int32} {isi : Int32} {iab : Int32} {iun : Int32} {isg : Int32} {ifa : Nat → Int32} {ihe : Nat → Int32} {ist : Nat → Int32} {jsw : Int32} {jca : Int32} {jsi : Int32} {jab : Int32} {jun : Int32} {jsg : Int32} {jfa : Nat → Int32} {jhe : Nat → Int32} {jst : Nat → Int32} {tby : Nat → Int32} {tln : Int32} {qbi : Nat → Int32} {qhv : Nat → Int32} {qwo : Nat → Int32} {fab : Int64} {fbe : Int64} {w : Nat → Int32} {kp : Nat → Int32} {tx : Nat → Int32} {td : Int32} {rf : Nat → Int32} {fa : Int64} {fb : Int64} (hR : Rel xik xbc xnc xfc csw cca csi cab cun csg cfa che cst isw ica isi iab iun isg ifa ihe ist jsw jca jsi jab jun jsg jfa jhe jst tby tln qbi qhv qwo fab fbe w kp tx td rf fa fb) (a1 : Int32) (a2 : Int32) (a3 : Int32) : ∃ (r0 : Int32) (xnn_z : Nat → Int32) (xbc_z : Int32) (xnc_z : Int32) (xfc_z : Int32) (csg_z : Int32) (cst_z : Nat → Int32) (w_z : Nat → Int32) (rf_z : Nat → Int32), X_seen a1 a2 a3 xnn xbc xnc xfc csg cst = some (r0, xnn_z, xbc_z, xnc_z, xfc_z, csg_z, cst_z) ∧ M_seen a1 a2 a3 w rf = some (r0, w_z, rf_z) ∧ Rel xik xbc_z xnc_z xfc_z csw cca csi cab cun csg_z cfa che cst_z isw ica isi iab iun isg ifa ihe ist jsw jca jsi jab jun jsg jfa jhe jst tby tln qbi qhv qwo fab fbe w_z kp tx td rf_z fa fb := by
  obtain ⟨hC, hI, hT, hF, hS, hQ⟩ := hR
  obtain ⟨n, u, g, b, sv, cv, K, f, hh, hn, hu, hg, hb, hsv, hcv, rfl, rfl, rfl, rfl, rfl, rfl, w0, w1, w2, w3, w4, w5, hK, hKB, hst, hfu, hf⟩ := id hC
  simp only [Nat.zero_add] at w3
  unfold X_seen M_seen
  rw [show M_in a1.toInt64 1 40 = _ from in_w a1 1 40, show M_in a2.toInt64 0 60 = _ from in_w a2 0 60, show M_in a3.toInt64 0 3 = _ from in_w a3 0 3]
  simp only [bnd]
  rw [aw3]
  simp only [bd1, ite_10]
  rw [show upd (upd (upd xnn 0 a1) 1 a2) 2 a3 0 = a1 from rfl, show upd (upd (upd xnn 0 a1) 1 a2) 2 a3 1 = a2 from rfl, show upd (upd (upd xnn 0 a1) 1 a2) 2 a3 2 = a3 from rfl]
  have bad : ∃ r0 xnn_z xbc_z xnc_z xfc_z csg_z cst_z w_z rf_z, (bd4 (X_refuse (-2) xbc xnc xfc) fun r_16 xbc_17 xnc_18 xfc_19 => some (r_16, upd (upd (upd xnn 0 a1) 1 a2) 2 a3, xbc_17, xnc_18, xfc_19, nI g, cst)) = some (r0, xnn_z, xbc_z, xnc_z, xfc_z, csg_z, cst_z) ∧ M_seen_36 w rf = some (r0, w_z, rf_z) ∧ Rel xik xbc_z xnc_z xfc_z (nI sv) (nI cv) (nI n) (nI b) (nI u) csg_z cfa che cst_z isw ica isi iab iun isg ifa ihe ist jsw jca jsi jab jun jsg jfa jhe jst tby tln qbi qhv qwo fab fbe w_z kp tx td rf_z fa fb := by
    unfold M_seen_36
    rw [rx_bad, rm_bad]
    exact ⟨_, _, _, _, _, _, _, _, _, rfl, rfl, hC, hI, hT, hF, st_bad hS, hQ⟩
  by_cases h1 : 1 ≤ a1 ∧ a1 ≤ 40
  case neg => rw [if_neg h1, if_neg (fun h => h1 h.1)]; exact bad
  rw [if_pos h1]
  by_cases h2 : 0 ≤ a2 ∧ a2 ≤ 60
  case neg => rw [if_neg h2, if_neg (fun h => h2 h.2.1)]; exact bad
  rw [if_pos h2]
  by_cases h3 : 0 ≤ a3 ∧ a3 ≤ 3
  case neg => rw [if_neg h3, if_neg (fun h => h3 h.2.2)]; exact bad
  rw [if_pos h3, if_pos ⟨h1, h2, h3⟩, w3]
  unfold C_sight
  by_cases h6 : g = 6
  · subst h6
    rw [if_pos (by decide), if_pos (show nI 6 = (6 : Int32) from rfl), rm_full]
    simp only [bd3]
    rw [if_pos trivial, rx_full]
    exact ⟨_, _, _, _, _, _, _, _, _, rfl, rfl, hC, hI, hT, hF, st_full hS, hQ⟩
  · have q1 : ¬ (6 : Int32) ≤ nI g := nI_ge (a := g) (b := 6) (by omega) (by omega)
    have q2 : ¬ nI g = (6 : Int32) := fun e => h6 ((nI_eq (by omega) (by omega)).mp (show nI g = nI 6 from e))
    rw [if_neg q1, if_neg q2]
    rw [show (54 : Int32) = nI 54 from rfl, show (3 : Int32) = nI 3 from rfl, pk_mul, pk_mul, nI_add]
    have q3 : cpb 0 (nI (g * 3)) (nI 3) 3 18 = true := cpb3 g (by omega)
    have p1 : nI (54 + 3 * g) + 1 = nI (54 + 3 * g + 1) := nI_add _ 1
    have p2 : nI (54 + 3 * g) + 2 = nI (54 + 3 * g + 2) := nI_add _ 2
    rw [q3, p1, p2, inb_t (i := 54 + 3 * g) (by omega) (by omega), inb_t (i := 54 + 3 * g + 1) (by omega) (by omega), inb_t (i := 54 + 3 * g + 2) (by omega) (by omega), nI_clamp (n := 54 + 3 * g) (by omega), nI_clamp (n := 54 + 3 * g + 1) (by omega), nI_clamp (n := 54 + 3 * g + 2) (by omega), nI_clamp (n := g * 3) (by omega)]
    simp only [ck, bnd, bd3]
    rw [if_neg (show ¬ (1 : Int32) = 0 by decide), show nI g + 1 = nI (g + 1) from nI_1 _]
    have e3 : upd (upd (upd w (54 + 3 * g) a1) (54 + 3 * g + 1) a2) (54 + 3 * g + 2) a3 3 = nI g := by
      rw [pk_un (by omega), pk_un (by omega), pk_un (by omega)]
      exact w3
    rw [e3, show nI g + 1 = nI (g + 1) from nI_1 _, pk_us]
    refine ⟨_, _, _, _, _, _, _, _, _, rfl, rfl, ?_, hI.cong (fun i hi _ => by rw [pk_un (by omega), pk_un (by omega), pk_un (by omega), pk_un (by omega)]), hT, hF, hS, hQ⟩
    refine ⟨n, u, g + 1, b, sv, cv, K, f, hh, hn, hu, by omega, hb, hsv, hcv, rfl, rfl, rfl, rfl, rfl, rfl, ?_, ?_, ?_, pk_us, ?_, ?_, ?_, hKB, ?_, hfu, ?_⟩
    · rw [pk_un (by omega), pk_un (by omega), pk_un (by omega), pk_un (by omega)]; exact w0
    · rw [pk_un (by omega), pk_un (by omega), pk_un (by omega), pk_un (by omega)]; exact w1
    · rw [pk_un (by omega), pk_un (by omega), pk_un (by omega), pk_un (by omega)]; exact w2
    · rw [pk_un (by omega), pk_un (by omega), pk_un (by omega), pk_un (by omega)]; exact w4
    · rw [pk_un (by omega), pk_un (by omega), pk_un (by omega), pk_un (by omega)]; exact w5
    · intro k j hk hj
      rw [pk_un (by omega), pk_un (by omega), pk_un (by omega), pk_un (by omega)]
      exact hK k j hk hj
    · intro i hi
      rw [pk_un (by omega)]
      by_cases i0 : i < 3 * g
      · rw [pk_cpy_out (Or.inl (by omega)), pk_un (by omega), pk_un (by omega), pk_un (by omega)]
        exact hst i i0
      · rw [show (nI 3).toNatClampNeg = 3 from rfl, pk_cpy_in (by omega) (show i < g * 3 + 3 by omega)]
        rcases (show i = 3 * g ∨ i = 3 * g + 1 ∨ i = 3 * g + 2 by omega) with rfl | rfl | rfl
        · rw [show (0 : Int32).toNatClampNeg + (3 * g - g * 3) = 0 by rw [show 3 * g - g * 3 = 0 by omega]; rfl]
          show a1 = _
          rw [pk_un (by omega), pk_un (by omega), show 0 + (54 + 3 * g) = 54 + 3 * g by omega, pk_us]
        · rw [show (0 : Int32).toNatClampNeg + (3 * g + 1 - g * 3) = 1 by rw [show 3 * g + 1 - g * 3 = 1 by omega]; rfl]
          show a2 = _
          rw [pk_un (by omega), show 0 + (54 + (3 * g + 1)) = 54 + 3 * g + 1 by omega, pk_us]
        · rw [show (0 : Int32).toNatClampNeg + (3 * g + 2 - g * 3) = 2 by rw [show 3 * g + 2 - g * 3 = 2 by omega]; rfl]
          show a3 = _
          rw [show 0 + (54 + (3 * g + 2)) = 54 + 3 * g + 2 by omega, pk_us]
    · intro i hi
      rw [pk_un (by omega), pk_un (by omega), pk_un (by omega), pk_un (by omega)]
      exact hf i hi
