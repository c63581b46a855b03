/-! PURE: the small calls -/
theorem rng {a M : Int32} {m : Nat} (hM : M.toInt = m) (h : 0 ≤ a ∧ a ≤ M) : ∃ j : Nat, j ≤ m ∧ a = nI j := nI_of2 hM (Int32.not_lt.mpr h.1) h.2
theorem rng_in {j m : Nat} (hj : j ≤ m) (hm : m < 2 ^ 31) : (0 : Int32) ≤ nI j ∧ nI j ≤ nI m := ⟨nI_pos' (by omega), nI_le hj hm⟩
theorem rx_bad {xbc xnc xfc : Int32} : X_refuse (-2) xbc xnc xfc = some (-2, xbc + 1, xnc, xfc) := rfl
theorem rx_no {xbc xnc xfc : Int32} : X_refuse (-3) xbc xnc xfc = some (-3, xbc, xnc + 1, xfc) := rfl
theorem rx_full {xbc xnc xfc : Int32} : X_refuse (-4) xbc xnc xfc = some (-4, xbc, xnc, xfc + 1) := rfl
theorem rm_bad {rf : Nat → Int32} : M_bad rf = some (-2, upd rf 0 (rf 0 + 1)) := rfl
theorem rm_badAs {rf : Nat → Int32} {x : Int32} : M_badAs x rf = some (x, upd rf 0 (rf 0 + 1)) := rfl
theorem rm_no {rf : Nat → Int32} : M_no rf = some (-3, upd rf 1 (rf 1 + 1)) := rfl
theorem rm_full {rf : Nat → Int32} : M_full rf = some (-4, upd rf 2 (rf 2 + 1)) := rfl
theorem st_bad {rf : Nat → Int32} {xbc xnc xfc : Int32} (h : rf 0 = xbc ∧ rf 1 = xnc ∧ rf 2 = xfc) : upd rf 0 (rf 0 + 1) 0 = xbc + 1 ∧ upd rf 0 (rf 0 + 1) 1 = xnc ∧ upd rf 0 (rf 0 + 1) 2 = xfc := by
  obtain ⟨rfl, rfl, rfl⟩ := h
  exact ⟨rfl, rfl, rfl⟩
theorem st_no {rf : Nat → Int32} {xbc xnc xfc : Int32} (h : rf 0 = xbc ∧ rf 1 = xnc ∧ rf 2 = xfc) : upd rf 1 (rf 1 + 1) 0 = xbc ∧ upd rf 1 (rf 1 + 1) 1 = xnc + 1 ∧ upd rf 1 (rf 1 + 1) 2 = xfc := by
  obtain ⟨rfl, rfl, rfl⟩ := h
  exact ⟨rfl, rfl, rfl⟩
theorem st_full {rf : Nat → Int32} {xbc xnc xfc : Int32} (h : rf 0 = xbc ∧ rf 1 = xnc ∧ rf 2 = xfc) : upd rf 2 (rf 2 + 1) 0 = xbc ∧ upd rf 2 (rf 2 + 1) 1 = xnc ∧ upd rf 2 (rf 2 + 1) 2 = xfc + 1 := by
  obtain ⟨rfl, rfl, rfl⟩ := h
  exact ⟨rfl, rfl, rfl⟩
theorem xstorm_w (a : Int32) : X_isStorm a = some (if 0 ≤ a ∧ a ≤ 200 then 1 else 0) := by
  unfold X_isStorm
  rw [within_w]
  simp only [bd1, bo_ite, ck]
theorem mstorm_w (a : Int32) : M_isStorm a = some (if 0 ≤ a ∧ a ≤ 200 then 1 else 0) := by
  unfold M_isStorm
  rw [show M_in a.toInt64 0 200 = _ from in_w a 0 200]
  simp only [bd1, bo_ite, ck]
theorem mowner_w (a : Int32) : M_isOwner a = some (if 0 ≤ a ∧ a ≤ 3 then 1 else 0) := by
  unfold M_isOwner
  rw [show M_in a.toInt64 0 3 = _ from in_w a 0 3]
  simp only [bd1, bo_ite, ck]
theorem B_part {xik : Int32} {xbc : Int32} {xnc : Int32} {xfc : Int32} {csw : Int32} {cca : Int32} {csi : Int32} {cab : Int32} {cun : Int32} {csg : Int32} {cfa : Nat → Int32} {che : Nat → Int32} {cst : Nat → Int32} {isw : Int32} {ica : Int32} {isi : Int32} {iab : Int32} {iun : Int32} {isg : Int32} {ifa : Nat → Int32} {ihe : Nat → Int32} {ist : Nat → Int32} {jsw : Int32} {jca : Int32} {jsi : Int32} {jab : Int32} {jun : Int32} {jsg : Int32} {jfa : Nat → Int32} {jhe : Nat → Int32} {jst : Nat → Int32} {tby : Nat → Int32} {tln : Int32} {qbi : Nat → Int32} {qhv : Nat → Int32} {qwo : Nat → Int32} {fab : Int64} {fbe : Int64} {w : Nat → Int32} {kp : Nat → Int32} {tx : Nat → Int32} {td : Int32} {rf : Nat → Int32} {fa : Int64} {fb : Int64} (hR : Rel xik xbc xnc xfc csw cca csi cab cun csg cfa che cst isw ica isi iab iun isg ifa ihe ist jsw jca jsi jab jun jsg jfa jhe jst tby tln qbi qhv qwo fab fbe w kp tx td rf fa fb) (a1 : Int32) : ∃ (r0 : Int64) (xbc_z : Int32) (xnc_z : Int32) (xfc_z : Int32) (rf_z : Nat → Int32), X_part a1 xbc xnc xfc fab fbe = some (r0, xbc_z, xnc_z, xfc_z) ∧ M_part a1 rf fa fb = some (r0, rf_z) ∧ Rel xik xbc_z xnc_z xfc_z csw cca csi cab cun csg cfa che cst isw ica isi iab iun isg ifa ihe ist jsw jca jsi jab jun jsg jfa jhe jst tby tln qbi qhv qwo fab fbe w kp tx td rf_z fa fb := by
  obtain ⟨hC, hI, hT, hF, hS, hQ⟩ := hR
  unfold X_part M_part
  rw [within_w]
  simp only [bd1, ite_10]
  by_cases h : 0 ≤ a1 ∧ a1 ≤ 1
  · obtain ⟨j, hj, rfl⟩ := rng (m := 1) rfl h
    rw [if_pos h]
    rcases (show j = 0 ∨ j = 1 by omega) with rfl | rfl
    · exact ⟨_, _, _, _, _, rfl, by rw [hF.1]; rfl, hC, hI, hT, hF, hS, hQ⟩
    · exact ⟨_, _, _, _, _, rfl, by rw [hF.2]; rfl, hC, hI, hT, hF, hS, hQ⟩
  · have h0 : ¬ a1 = 0 := fun e => h (by rw [e]; decide)
    have h1 : ¬ a1 = 1 := fun e => h (by rw [e]; decide)
    rw [if_neg h, if_neg h0, if_neg h1, rx_bad, rm_bad]
    exact ⟨_, _, _, _, _, rfl, rfl, hC, hI, hT, hF, st_bad hS, hQ⟩
theorem B_status {xik : Int32} {xbc : Int32} {xnc : Int32} {xfc : Int32} {csw : Int32} {cca : Int32} {csi : Int32} {cab : Int32} {cun : Int32} {csg : Int32} {cfa : Nat → Int32} {che : Nat → Int32} {cst : Nat → Int32} {isw : Int32} {ica : Int32} {isi : Int32} {iab : Int32} {iun : Int32} {isg : Int32} {ifa : Nat → Int32} {ihe : Nat → Int32} {ist : Nat → Int32} {jsw : Int32} {jca : Int32} {jsi : Int32} {jab : Int32} {jun : Int32} {jsg : Int32} {jfa : Nat → Int32} {jhe : Nat → Int32} {jst : Nat → Int32} {tby : Nat → Int32} {tln : Int32} {qbi : Nat → Int32} {qhv : Nat → Int32} {qwo : Nat → Int32} {fab : Int64} {fbe : Int64} {w : Nat → Int32} {kp : Nat → Int32} {tx : Nat → Int32} {td : Int32} {rf : Nat → Int32} {fa : Int64} {fb : Int64} (hR : Rel xik xbc xnc xfc csw cca csi cab cun csg cfa che cst isw ica isi iab iun isg ifa ihe ist jsw jca jsi jab jun jsg jfa jhe jst tby tln qbi qhv qwo fab fbe w kp tx td rf fa fb) (a1 : Int32) : ∃ (r0 : Int32) (xbc_z : Int32) (xnc_z : Int32) (xfc_z : Int32) (rf_z : Nat → Int32), X_status a1 xbc xnc xfc = some (r0, xbc_z, xnc_z, xfc_z) ∧ M_status a1 rf = some (r0, rf_z) ∧ Rel xik xbc_z xnc_z xfc_z csw cca csi cab cun csg cfa che cst isw ica isi iab iun isg ifa ihe ist jsw jca jsi jab jun jsg jfa jhe jst tby tln qbi qhv qwo fab fbe w kp tx td rf_z fa fb := by
  obtain ⟨hC, hI, hT, hF, hS, hQ⟩ := hR
  unfold X_status M_status
  rw [show M_in a1.toInt64 0 2 = _ from in_w a1 0 2]
  simp only [bd1, ite_10]
  by_cases h : 0 ≤ a1 ∧ a1 ≤ 2
  · obtain ⟨j, hj, rfl⟩ := rng (m := 2) rfl h
    rw [if_pos h]
    rcases (show j = 0 ∨ j = 1 ∨ j = 2 by omega) with rfl | rfl | rfl
    · exact ⟨_, _, _, _, _, rfl, by rw [← hS.1]; rfl, hC, hI, hT, hF, hS, hQ⟩
    · exact ⟨_, _, _, _, _, rfl, by rw [← hS.2.1]; rfl, hC, hI, hT, hF, hS, hQ⟩
    · exact ⟨_, _, _, _, _, rfl, by rw [← hS.2.2]; rfl, hC, hI, hT, hF, hS, hQ⟩
  · have h0 : ¬ a1 = 0 := fun e => h (by rw [e]; decide)
    have h1 : ¬ a1 = 1 := fun e => h (by rw [e]; decide)
    have h2 : ¬ a1 = 2 := fun e => h (by rw [e]; decide)
    rw [if_neg h, if_neg h0, if_neg h1, if_neg h2, rx_bad, rm_badAs]
    exact ⟨_, _, _, _, _, rfl, rfl, hC, hI, hT, hF, st_bad hS, hQ⟩
theorem cnt_eq {csw cca csi cab cun csg tln td : Int32} {cfa che cst w : Nat → Int32} (hC : RC csw cca csi cab cun csg cfa che cst w 0) (ht : tln = td) (a : Int32) : ∃ r, X_howMany a csw cca csi cab cun csg tln = some r ∧ M_countOf a w td = some r := by
  obtain ⟨n, u, g, b, sv, cv, K, f, hh, hn, hu, hg, hb, hsv, hcv, rfl, rfl, rfl, rfl, rfl, rfl, w0, w1, w2, w3, w4, w5, -⟩ := hC
  have hb8 : b < 256 := Nat.lt_of_lt_of_le hb (Nat.pow_le_pow_right (by omega) hn)
  subst ht
  unfold X_howMany M_countOf
  simp only [Nat.zero_add] at w0 w1 w2 w3 w4 w5
  rw [w0, w1, w2, w3, w4, w5, ones_N b hb8, bitc_N b hb8]
  simp only [bd1]
  by_cases h0 : a = 0
  · rw [if_pos h0]; exact ⟨_, rfl, rfl⟩
  rw [if_neg h0]
  by_cases h1 : a = 1
  · rw [if_pos h1]; exact ⟨_, rfl, rfl⟩
  rw [if_neg h1]
  by_cases h2 : a = 2
  · rw [if_pos h2]; exact ⟨_, rfl, rfl⟩
  rw [if_neg h2]
  by_cases h3 : a = 3
  · rw [if_pos h3]; exact ⟨_, rfl, rfl⟩
  rw [if_neg h3]
  by_cases h4 : a = 4
  · rw [if_pos h4]; exact ⟨_, rfl, rfl⟩
  rw [if_neg h4]
  by_cases h5 : a = 5
  · rw [if_pos h5]; exact ⟨_, rfl, rfl⟩
  rw [if_neg h5]
  exact ⟨_, rfl, rfl⟩
theorem B_count {xik : Int32} {xbc : Int32} {xnc : Int32} {xfc : Int32} {csw : Int32} {cca : Int32} {csi : Int32} {cab : Int32} {cun : Int32} {csg : Int32} {cfa : Nat → Int32} {che : Nat → Int32} {cst : Nat → Int32} {isw : Int32} {ica : Int32} {isi : Int32} {iab : Int32} {iun : Int32} {isg : Int32} {ifa : Nat → Int32} {ihe : Nat → Int32} {ist : Nat → Int32} {jsw : Int32} {jca : Int32} {jsi : Int32} {jab : Int32} {jun : Int32} {jsg : Int32} {jfa : Nat → Int32} {jhe : Nat → Int32} {jst : Nat → Int32} {tby : Nat → Int32} {tln : Int32} {qbi : Nat → Int32} {qhv : Nat → Int32} {qwo : Nat → Int32} {fab : Int64} {fbe : Int64} {w : Nat → Int32} {kp : Nat → Int32} {tx : Nat → Int32} {td : Int32} {rf : Nat → Int32} {fa : Int64} {fb : Int64} (hR : Rel xik xbc xnc xfc csw cca csi cab cun csg cfa che cst isw ica isi iab iun isg ifa ihe ist jsw jca jsi jab jun jsg jfa jhe jst tby tln qbi qhv qwo fab fbe w kp tx td rf fa fb) (a1 : Int32) : ∃ (r0 : Int32) (xbc_z : Int32) (xnc_z : Int32) (xfc_z : Int32) (rf_z : Nat → Int32), X_count a1 xbc xnc xfc csw cca csi cab cun csg tln = some (r0, xbc_z, xnc_z, xfc_z) ∧ M_count a1 w td rf = some (r0, rf_z) ∧ Rel xik xbc_z xnc_z xfc_z csw cca csi cab cun csg cfa che cst isw ica isi iab iun isg ifa ihe ist jsw jca jsi jab jun jsg jfa jhe jst tby tln qbi qhv qwo fab fbe w kp tx td rf_z fa fb := by
  obtain ⟨hC, hI, hT, hF, hS, hQ⟩ := hR
  have htt : tln = td := by obtain ⟨m, -, e1, e2, -⟩ := hT; rw [e1, e2]
  obtain ⟨r, e1, e2⟩ := cnt_eq hC htt a1
  unfold X_count M_count
  rw [within_w, show M_in a1.toInt64 0 6 = _ from in_w a1 0 6]
  simp only [bd1, ite_10]
  by_cases h : 0 ≤ a1 ∧ a1 ≤ 6
  · rw [if_pos h, if_pos h, e1, e2]
    exact ⟨_, _, _, _, _, rfl, rfl, hC, hI, hT, hF, hS, hQ⟩
  · rw [if_neg h, if_neg h, rx_bad, rm_bad]
    exact ⟨_, _, _, _, _, rfl, rfl, hC, hI, hT, hF, st_bad hS, hQ⟩
theorem B_clear {xik : Int32} {xbc : Int32} {xnc : Int32} {xfc : Int32} {csw : Int32} {cca : Int32} {csi : Int32} {cab : Int32} {cun : Int32} {csg : Int32} {cfa : Nat → Int32} {che : Nat → Int32} {cst : Nat → Int32} {isw : Int32} {ica : Int32} {isi : Int32} {iab : Int32} {iun : Int32} {isg : Int32} {ifa : Nat → Int32} {ihe : Nat → Int32} {ist : Nat → Int32} {jsw : Int32} {jca : Int32} {jsi : Int32} {jab : Int32} {jun : Int32} {jsg : Int32} {jfa : Nat → Int32} {jhe : Nat → Int32} {jst : Nat → Int32} {tby : Nat → Int32} {tln : Int32} {qbi : Nat → Int32} {qhv : Nat → Int32} {qwo : Nat → Int32} {fab : Int64} {fbe : Int64} {w : Nat → Int32} {kp : Nat → Int32} {tx : Nat → Int32} {td : Int32} {rf : Nat → Int32} {fa : Int64} {fb : Int64} (hR : Rel xik xbc xnc xfc csw cca csi cab cun csg cfa che cst isw ica isi iab iun isg ifa ihe ist jsw jca jsi jab jun jsg jfa jhe jst tby tln qbi qhv qwo fab fbe w kp tx td rf fa fb) : ∃ (r0 : Int32) (tln_z : Int32) (td_z : Int32), X_clear tln = some (r0, tln_z) ∧ M_clear td = some (r0, td_z) ∧ Rel xik xbc xnc xfc csw cca csi cab cun csg cfa che cst isw ica isi iab iun isg ifa ihe ist jsw jca jsi jab jun jsg jfa jhe jst tby tln_z qbi qhv qwo fab fbe w kp tx td_z rf fa fb := by
  obtain ⟨hC, hI, hT, hF, hS, hQ⟩ := hR
  have htt : tln = td := by obtain ⟨m, -, e1, e2, -⟩ := hT; rw [e1, e2]
  subst htt
  exact ⟨_, _, _, rfl, rfl, hC, hI, ⟨0, by omega, rfl, rfl, fun j hj => absurd hj (by omega)⟩, hF, hS, hQ⟩
theorem byte_N : ∀ v, v < 128 → vp_nar .byte (nI v).toInt8.toInt32 = nI v := by decide +kernel
theorem B_type {xik : Int32} {xbc : Int32} {xnc : Int32} {xfc : Int32} {csw : Int32} {cca : Int32} {csi : Int32} {cab : Int32} {cun : Int32} {csg : Int32} {cfa : Nat → Int32} {che : Nat → Int32} {cst : Nat → Int32} {isw : Int32} {ica : Int32} {isi : Int32} {iab : Int32} {iun : Int32} {isg : Int32} {ifa : Nat → Int32} {ihe : Nat → Int32} {ist : Nat → Int32} {jsw : Int32} {jca : Int32} {jsi : Int32} {jab : Int32} {jun : Int32} {jsg : Int32} {jfa : Nat → Int32} {jhe : Nat → Int32} {jst : Nat → Int32} {tby : Nat → Int32} {tln : Int32} {qbi : Nat → Int32} {qhv : Nat → Int32} {qwo : Nat → Int32} {fab : Int64} {fbe : Int64} {w : Nat → Int32} {kp : Nat → Int32} {tx : Nat → Int32} {td : Int32} {rf : Nat → Int32} {fa : Int64} {fb : Int64} (hR : Rel xik xbc xnc xfc csw cca csi cab cun csg cfa che cst isw ica isi iab iun isg ifa ihe ist jsw jca jsi jab jun jsg jfa jhe jst tby tln qbi qhv qwo fab fbe w kp tx td rf fa fb) (a1 : Int32) : ∃ (r0 : Int32) (xbc_z : Int32) (xnc_z : Int32) (xfc_z : Int32) (tby_z : Nat → Int32) (tln_z : Int32) (tx_z : Nat → Int32) (td_z : Int32) (rf_z : Nat → Int32), X_type a1 xbc xnc xfc tby tln = some (r0, xbc_z, xnc_z, xfc_z, tby_z, tln_z) ∧ M_type a1 tx td rf = some (r0, tx_z, td_z, rf_z) ∧ Rel xik xbc_z xnc_z xfc_z csw cca csi cab cun csg cfa che cst isw ica isi iab iun isg ifa ihe ist jsw jca jsi jab jun jsg jfa jhe jst tby_z tln_z qbi qhv qwo fab fbe w kp tx_z td_z rf_z fa fb := by
  obtain ⟨hC, hI, hT, hF, hS, hQ⟩ := hR
  obtain ⟨n, hn, rfl, rfl, ht⟩ := id hT
  unfold X_type M_type
  rw [within_w, show M_in a1.toInt64 0 127 = _ from in_w a1 0 127]
  simp only [bd1, ite_10]
  by_cases h : 0 ≤ a1 ∧ a1 ≤ 127
  · obtain ⟨v, hv, rfl⟩ := rng (m := 127) rfl h
    rw [if_pos h, if_pos h]
    unfold T_append
    rw [within_w]
    simp only [bd1, ite_10]
    by_cases hf : n = 150
    · subst hf
      have : ¬ ((0 : Int32) ≤ nI 150 ∧ nI 150 ≤ 149) := by decide
      rw [if_neg this, if_pos (show nI 150 = (150 : Int32) from rfl), rm_full]
      simp only [bd3]
      rw [if_pos trivial, rx_full]
      exact ⟨_, _, _, _, _, _, _, _, _, rfl, rfl, hC, hI, hT, hF, st_full hS, hQ⟩
    · have h1 : (0 : Int32) ≤ nI n ∧ nI n ≤ 149 := rng_in (m := 149) (by omega) (by omega)
      have h2 : ¬ nI n = (150 : Int32) := fun e => hf ((nI_eq (by omega) (by omega)).mp (show nI n = nI 150 from e))
      rw [if_pos h1, if_neg h2, inb_t (by omega) (by omega), nI_clamp (by omega)]
      simp only [ck, bnd, bd3]
      rw [if_neg (show ¬ (1 : Int32) = 0 by decide), nI_1, byte_N v (by omega)]
      refine ⟨_, _, _, _, _, _, _, _, _, rfl, rfl, hC, hI, ⟨n + 1, by omega, rfl, rfl, fun j hj => ?_⟩, hF, hS, hQ⟩
      by_cases hjn : j = n
      · subst hjn
        exact ⟨v, by omega, pk_us, pk_us⟩
      · rw [pk_un hjn, pk_un hjn]
        exact ht j (by omega)
  · rw [if_neg h, if_neg h, rx_bad, rm_bad]
    exact ⟨_, _, _, _, _, _, _, _, _, rfl, rfl, hC, hI, hT, hF, st_bad hS, hQ⟩
theorem B_lives {xik : Int32} {xbc : Int32} {xnc : Int32} {xfc : Int32} {csw : Int32} {cca : Int32} {csi : Int32} {cab : Int32} {cun : Int32} {csg : Int32} {cfa : Nat → Int32} {che : Nat → Int32} {cst : Nat → Int32} {isw : Int32} {ica : Int32} {isi : Int32} {iab : Int32} {iun : Int32} {isg : Int32} {ifa : Nat → Int32} {ihe : Nat → Int32} {ist : Nat → Int32} {jsw : Int32} {jca : Int32} {jsi : Int32} {jab : Int32} {jun : Int32} {jsg : Int32} {jfa : Nat → Int32} {jhe : Nat → Int32} {jst : Nat → Int32} {tby : Nat → Int32} {tln : Int32} {qbi : Nat → Int32} {qhv : Nat → Int32} {qwo : Nat → Int32} {fab : Int64} {fbe : Int64} {w : Nat → Int32} {kp : Nat → Int32} {tx : Nat → Int32} {td : Int32} {rf : Nat → Int32} {fa : Int64} {fb : Int64} (hR : Rel xik xbc xnc xfc csw cca csi cab cun csg cfa che cst isw ica isi iab iun isg ifa ihe ist jsw jca jsi jab jun jsg jfa jhe jst tby tln qbi qhv qwo fab fbe w kp tx td rf fa fb) (a1 : Int32) : ∃ (r0 : Int32) (xbc_z : Int32) (xnc_z : Int32) (xfc_z : Int32) (rf_z : Nat → Int32), X_lives a1 xbc xnc xfc cca csi cab cfa = some (r0, xbc_z, xnc_z, xfc_z) ∧ M_lives a1 w rf = some (r0, rf_z) ∧ Rel xik xbc_z xnc_z xfc_z csw cca csi cab cun csg cfa che cst isw ica isi iab iun isg ifa ihe ist jsw jca jsi jab jun jsg jfa jhe jst tby tln qbi qhv qwo fab fbe w kp tx td rf_z fa fb := by
  obtain ⟨hC, hI, hT, hF, hS, hQ⟩ := hR
  obtain ⟨n, u, g, b, sv, cv, K, f, hh, hn, hu, hg, hb, hsv, hcv, rfl, rfl, rfl, rfl, rfl, rfl, w0, w1, w2, w3, w4, w5, hK, -⟩ := id hC
  have hb8 : b < 256 := Nat.lt_of_lt_of_le hb (Nat.pow_le_pow_right (by omega) hn)
  simp only [Nat.zero_add] at w0 w1 w2 w3 w4 w5
  have hc : GCv n K cfa := fun k j hk hj => (hK k j hk hj).1
  have hm : GMv n K w 0 := fun k j hk hj => (hK k j hk hj).2
  unfold X_lives M_lives
  rw [xstorm_w, mstorm_w]
  simp only [bd1, ite_10]
  by_cases h : 0 ≤ a1 ∧ a1 ≤ 200
  · rw [if_pos h, if_pos h]
    unfold C_outlives M_isAlive
    rw [w5, w2, show (3 : Int32) = nI 3 from rfl, total_N hc hn (by omega) (by omega), heavy_N hm w0 hn (by omega)]
    simp only [bd1]
    by_cases h2 : nI cv - a1 < nI (sm (inS b (fun k => K k 3)) n)
    · rw [if_pos h2]
      exact ⟨_, _, _, _, _, rfl, rfl, hC, hI, hT, hF, hS, hQ⟩
    · rw [if_neg h2]
      exact ⟨_, _, _, _, _, rfl, rfl, hC, hI, hT, hF, hS, hQ⟩
  · rw [if_neg h, if_neg h, rx_bad, rm_bad]
    exact ⟨_, _, _, _, _, rfl, rfl, hC, hI, hT, hF, st_bad hS, hQ⟩
