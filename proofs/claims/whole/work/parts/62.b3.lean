/-! PURE: images, undo, goods -/
theorem become_N (csw cca csi cab cun csg : Int32) (cfa che cst : Nat → Int32) (osw oca osi oab oun osg : Int32) (ofa ohe ost : Nat → Int32) : C_become csw cca csi cab cun csg cfa che cst osw oca osi oab oun osg ofa ohe ost = some (osw, oca, osi, oab, oun, osg, va_cpy ofa cfa 0 0 48, va_cpy ohe che 0 0 8, va_cpy ost cst 0 0 18) := by
  unfold C_become
  rw [show cpb 0 0 48 48 48 = true by decide, show cpb 0 0 8 8 8 = true by decide, show cpb 0 0 18 18 18 = true by decide]
  rfl
theorem cp_all {f g : Nat → Int32} {n i : Nat} (h : i < n) : va_cpy f g 0 0 n i = f i := by
  rw [pk_cpy_in (by omega) (by omega)]
  simp
theorem RC.become {sw ca si ab un sg : Int32} {fc he st fc' he' st' w : Nat → Int32} {o : Nat} (h : RC sw ca si ab un sg fc he st w o) : RC sw ca si ab un sg (va_cpy fc fc' 0 0 48) (va_cpy he he' 0 0 8) (va_cpy st st' 0 0 18) w o :=
  h.rows (fun _ hi => cp_all hi) (fun _ hi => cp_all hi) (fun _ hi => cp_all hi)
theorem cpf_in {w : Nat → Int32} {a b k i : Nat} (h : i < k) : cpf w a b k (b + i) = w (a + i) := by
  unfold cpf
  rw [if_pos (by omega), show b + i - b = i by omega]
theorem cpf_out {w : Nat → Int32} {a b k i : Nat} (h : ¬ (b ≤ i ∧ i < b + k)) : cpf w a b k i = w i := if_neg h
theorem B_image {xik : Int32} {xbc : Int32} {xnc : Int32} {xfc : Int32} {csw : Int32} {cca : Int32} {csi : Int32} {cab : Int32} {cun : Int32} {csg : Int32} {cfa : Nat → Int32} {che : Nat → Int32} {cst : Nat → Int32} {isw : Int32} {ica : Int32} {isi : Int32} {iab : Int32} {iun : Int32} {isg : Int32} {ifa : Nat → Int32} {ihe : Nat → Int32} {ist : Nat → Int32} {jsw : Int32} {jca : Int32} {jsi : Int32} {jab : Int32} {jun : Int32} {jsg : Int32} {jfa : Nat → Int32} {jhe : Nat → Int32} {jst : Nat → Int32} {tby : Nat → Int32} {tln : Int32} {qbi : Nat → Int32} {qhv : Nat → Int32} {qwo : Nat → Int32} {fab : Int64} {fbe : Int64} {w : Nat → Int32} {kp : Nat → Int32} {tx : Nat → Int32} {td : Int32} {rf : Nat → Int32} {fa : Int64} {fb : Int64} (hR : Rel xik xbc xnc xfc csw cca csi cab cun csg cfa che cst isw ica isi iab iun isg ifa ihe ist jsw jca jsi jab jun jsg jfa jhe jst tby tln qbi qhv qwo fab fbe w kp tx td rf fa fb) (a1 : Int32) : ∃ (r0 : Int32) (xik_z : Int32) (xbc_z : Int32) (xnc_z : Int32) (xfc_z : Int32) (isw_z : Int32) (ica_z : Int32) (isi_z : Int32) (iab_z : Int32) (iun_z : Int32) (isg_z : Int32) (ifa_z : Nat → Int32) (ihe_z : Nat → Int32) (ist_z : Nat → Int32) (jsw_z : Int32) (jca_z : Int32) (jsi_z : Int32) (jab_z : Int32) (jun_z : Int32) (jsg_z : Int32) (jfa_z : Nat → Int32) (jhe_z : Nat → Int32) (jst_z : Nat → Int32) (w_z : Nat → Int32) (kp_z : Nat → Int32) (rf_z : Nat → Int32), X_image a1 xik xbc xnc xfc csw cca csi cab cun csg cfa che cst isw ica isi iab iun isg ifa ihe ist jsw jca jsi jab jun jsg jfa jhe jst = some (r0, xik_z, xbc_z, xnc_z, xfc_z, isw_z, ica_z, isi_z, iab_z, iun_z, isg_z, ifa_z, ihe_z, ist_z, jsw_z, jca_z, jsi_z, jab_z, jun_z, jsg_z, jfa_z, jhe_z, jst_z) ∧ M_image a1 w kp rf = some (r0, w_z, kp_z, rf_z) ∧ Rel xik_z xbc_z xnc_z xfc_z csw cca csi cab cun csg cfa che cst isw_z ica_z isi_z iab_z iun_z isg_z ifa_z ihe_z ist_z jsw_z jca_z jsi_z jab_z jun_z jsg_z jfa_z jhe_z jst_z tby tln qbi qhv qwo fab fbe w_z kp_z tx td rf_z fa fb := by
  obtain ⟨hC, hI, hT, hF, hS, hQ⟩ := hR
  obtain ⟨k0, k1, h0, h1, rfl, e0, e1, i0, i1⟩ := id hI
  unfold X_image M_image
  rw [within_w, show M_in a1.toInt64 0 1 = _ from in_w a1 0 1]
  simp only [bd1, ite_10]
  by_cases h : 0 ≤ a1 ∧ a1 ≤ 1
  · obtain ⟨j, hj, rfl⟩ := rng (m := 1) rfl h
    rw [if_pos h, if_pos h]
    rcases (show j = 0 ∨ j = 1 by omega) with rfl | rfl
    · have hcp : M_copy 0 (80 * (1 + nI 0)) w = some (cpf w 0 80 80) := copy_N (a := 0) (b := 80) (by omega) (by omega) (by omega) w
      have hor : nI (k0 + 2 * k1) ||| (1 : Int32) <<< (nI 0 &&& 31) = nI (1 + 2 * k1) := by
        rcases (show k0 = 0 ∨ k0 = 1 by omega) with rfl | rfl <;> rcases (show k1 = 0 ∨ k1 = 1 by omega) with rfl | rfl <;> decide
      rw [hcp, become_N, hor, if_pos (show nI 0 = 0 from rfl), show inb (nI 0) 2 = true by decide]
      refine ⟨_, _, _, _, _, _, _, _, _, _, _, _, _, _, _, _, _, _, _, _, _, _, _, _, _, _, rfl, rfl, ?_, ⟨1, k1, by omega, h1, rfl, rfl, e1, fun _ => ?_, fun q => ?_⟩, hT, hF, hS, hQ⟩
      · exact hC.cong (fun i hi => cpf_out (by omega))
      · exact (hC.moved (o' := 80) (fun i hi => cpf_in hi)).become
      · exact (i1 q).cong (fun i hi => cpf_out (by omega))
    · have hcp : M_copy 0 (80 * (1 + nI 1)) w = some (cpf w 0 160 80) := copy_N (a := 0) (b := 160) (by omega) (by omega) (by omega) w
      have hor : nI (k0 + 2 * k1) ||| (1 : Int32) <<< (nI 1 &&& 31) = nI (k0 + 2 * 1) := by
        rcases (show k0 = 0 ∨ k0 = 1 by omega) with rfl | rfl <;> rcases (show k1 = 0 ∨ k1 = 1 by omega) with rfl | rfl <;> decide
      rw [hcp, become_N, become_N, hor, if_neg (show ¬ nI 1 = 0 by decide), show inb (nI 1) 2 = true by decide]
      refine ⟨_, _, _, _, _, _, _, _, _, _, _, _, _, _, _, _, _, _, _, _, _, _, _, _, _, _, rfl, rfl, ?_, ⟨k0, 1, h0, by omega, rfl, e0, rfl, fun q => ?_, fun _ => ?_⟩, hT, hF, hS, hQ⟩
      · exact hC.cong (fun i hi => cpf_out (by omega))
      · exact (i0 q).cong (fun i hi => cpf_out (by omega))
      · exact (hC.moved (o' := 160) (fun i hi => cpf_in hi)).become
  · rw [if_neg h, if_neg h, rx_bad, rm_bad]
    exact ⟨_, _, _, _, _, _, _, _, _, _, _, _, _, _, _, _, _, _, _, _, _, _, _, _, _, _, rfl, rfl, hC, hI, hT, hF, st_bad hS, hQ⟩
theorem B_from {xik : Int32} {xbc : Int32} {xnc : Int32} {xfc : Int32} {csw : Int32} {cca : Int32} {csi : Int32} {cab : Int32} {cun : Int32} {csg : Int32} {cfa : Nat → Int32} {che : Nat → Int32} {cst : Nat → Int32} {isw : Int32} {ica : Int32} {isi : Int32} {iab : Int32} {iun : Int32} {isg : Int32} {ifa : Nat → Int32} {ihe : Nat → Int32} {ist : Nat → Int32} {jsw : Int32} {jca : Int32} {jsi : Int32} {jab : Int32} {jun : Int32} {jsg : Int32} {jfa : Nat → Int32} {jhe : Nat → Int32} {jst : Nat → Int32} {tby : Nat → Int32} {tln : Int32} {qbi : Nat → Int32} {qhv : Nat → Int32} {qwo : Nat → Int32} {fab : Int64} {fbe : Int64} {w : Nat → Int32} {kp : Nat → Int32} {tx : Nat → Int32} {td : Int32} {rf : Nat → Int32} {fa : Int64} {fb : Int64} (hR : Rel xik xbc xnc xfc csw cca csi cab cun csg cfa che cst isw ica isi iab iun isg ifa ihe ist jsw jca jsi jab jun jsg jfa jhe jst tby tln qbi qhv qwo fab fbe w kp tx td rf fa fb) (a1 : Int32) : ∃ (r0 : Int32) (xbc_z : Int32) (xnc_z : Int32) (xfc_z : Int32) (csw_z : Int32) (cca_z : Int32) (csi_z : Int32) (cab_z : Int32) (cun_z : Int32) (csg_z : Int32) (cfa_z : Nat → Int32) (che_z : Nat → Int32) (cst_z : Nat → Int32) (w_z : Nat → Int32) (rf_z : Nat → Int32), X_from a1 xik xbc xnc xfc csw cca csi cab cun csg cfa che cst isw ica isi iab iun isg ifa ihe ist jsw jca jsi jab jun jsg jfa jhe jst = some (r0, xbc_z, xnc_z, xfc_z, csw_z, cca_z, csi_z, cab_z, cun_z, csg_z, cfa_z, che_z, cst_z) ∧ M_from a1 w kp rf = some (r0, w_z, rf_z) ∧ Rel xik xbc_z xnc_z xfc_z csw_z cca_z csi_z cab_z cun_z csg_z cfa_z che_z cst_z isw ica isi iab iun isg ifa ihe ist jsw jca jsi jab jun jsg jfa jhe jst tby tln qbi qhv qwo fab fbe w_z kp tx td rf_z fa fb := by
  obtain ⟨hC, hI, hT, hF, hS, hQ⟩ := hR
  obtain ⟨k0, k1, h0, h1, rfl, e0, e1, i0, i1⟩ := id hI
  unfold X_from M_from
  rw [within_w, show M_in a1.toInt64 0 1 = _ from in_w a1 0 1]
  simp only [bd1, ite_10]
  by_cases h : 0 ≤ a1 ∧ a1 ≤ 1
  · obtain ⟨j, hj, rfl⟩ := rng (m := 1) rfl h
    rw [if_pos h, if_pos h, isIn_N (by omega) (by omega), inb_t (by omega) (by omega), nI_clamp (by omega)]
    simp only [bd1, ite_10, ck]
    rcases (show j = 0 ∨ j = 1 by omega) with rfl | rfl
    · rw [e0]
      rcases (show k0 = 0 ∨ k0 = 1 by omega) with rfl | rfl
      · have hb : ¬ (0 + 2 * k1).testBit 0 = true := by
          rcases (show k1 = 0 ∨ k1 = 1 by omega) with rfl | rfl <;> decide
        rw [if_neg hb, if_pos (show nI 0 = 0 from rfl), rx_no, rm_no]
        exact ⟨_, _, _, _, _, _, _, _, _, _, _, _, _, _, _, rfl, rfl, hC, hI, hT, hF, st_no hS, hQ⟩
      · have hb : (1 + 2 * k1).testBit 0 = true := by
          rcases (show k1 = 0 ∨ k1 = 1 by omega) with rfl | rfl <;> decide
        have hcp : M_copy (80 * (1 + nI 0)) 0 w = some (cpf w 80 0 80) := copy_N (a := 80) (b := 0) (by omega) (by omega) (by omega) w
        rw [if_pos hb, if_neg (show ¬ nI 1 = 0 by decide), if_pos (show nI 0 = 0 from rfl), hcp, become_N]
        refine ⟨_, _, _, _, _, _, _, _, _, _, _, _, _, _, _, rfl, rfl, ?_, hI.cong (fun i hi _ => cpf_out (by omega)), hT, hF, hS, hQ⟩
        exact ((i0 rfl).moved (o' := 0) (fun i hi => cpf_in hi)).become
    · rw [e1]
      rcases (show k1 = 0 ∨ k1 = 1 by omega) with rfl | rfl
      · have hb : ¬ (k0 + 2 * 0).testBit 1 = true := by
          rcases (show k0 = 0 ∨ k0 = 1 by omega) with rfl | rfl <;> decide
        rw [if_neg hb, if_pos (show nI 0 = 0 from rfl), rx_no, rm_no]
        exact ⟨_, _, _, _, _, _, _, _, _, _, _, _, _, _, _, rfl, rfl, hC, hI, hT, hF, st_no hS, hQ⟩
      · have hb : (k0 + 2 * 1).testBit 1 = true := by
          rcases (show k0 = 0 ∨ k0 = 1 by omega) with rfl | rfl <;> decide
        have hcp : M_copy (80 * (1 + nI 1)) 0 w = some (cpf w 160 0 80) := copy_N (a := 160) (b := 0) (by omega) (by omega) (by omega) w
        rw [if_pos hb, if_neg (show ¬ nI 1 = 0 by decide), if_neg (show ¬ nI 1 = 0 by decide), hcp, become_N]
        refine ⟨_, _, _, _, _, _, _, _, _, _, _, _, _, _, _, rfl, rfl, ?_, hI.cong (fun i hi _ => cpf_out (by omega)), hT, hF, hS, hQ⟩
        exact ((i1 rfl).moved (o' := 0) (fun i hi => cpf_in hi)).become
  · rw [if_neg h, if_neg h, rx_bad, rm_bad]
    exact ⟨_, _, _, _, _, _, _, _, _, _, _, _, _, _, _, rfl, rfl, hC, hI, hT, hF, st_bad hS, hQ⟩
theorem or_bit {a k : Nat} (h : a.testBit k = false) : a ||| 2 ^ k = a + 2 ^ k := by
  have hp : 0 < 2 ^ k := Nat.two_pow_pos k
  have h1 : a / 2 ^ k % 2 = 0 := by
    rw [Nat.testBit, Nat.shiftRight_eq_div_pow] at h
    simp at h
    omega
  obtain ⟨q, hq⟩ : ∃ q, a / 2 ^ k = 2 * q := ⟨a / 2 ^ k / 2, by omega⟩
  have h2 := Nat.div_add_mod a (2 ^ k)
  have h3 := Nat.mod_lt a hp
  rw [hq] at h2
  have e1 : 2 ^ (k + 1) * q = 2 ^ k * (2 * q) := by rw [Nat.pow_succ, Nat.mul_assoc]
  have e2 : 2 ^ (k + 1) = 2 ^ k + 2 ^ k := by rw [Nat.pow_succ]; omega
  have h4 : a = 2 ^ (k + 1) * q ||| a % 2 ^ k := by
    rw [← Nat.two_pow_add_eq_or_of_lt (by omega) q, e1, h2]
  have h5 : 2 ^ k + a % 2 ^ k = 2 ^ k ||| a % 2 ^ k := by
    have := Nat.two_pow_add_eq_or_of_lt h3 1
    rwa [Nat.mul_one] at this
  have h6 : a + 2 ^ k = 2 ^ (k + 1) * q ||| (2 ^ k ||| a % 2 ^ k) := by
    rw [← h5, ← Nat.two_pow_add_eq_or_of_lt (by omega) q, e1]
    omega
  rw [h6, Nat.or_comm (2 ^ k), ← Nat.or_assoc, ← h4]
theorem sub_bit {a k : Nat} (h : a.testBit k = true) : sdf a (2 ^ k) + 2 ^ k = a ∧ (sdf a (2 ^ k)).testBit k = false := by
  have e : (sdf a (2 ^ k)).testBit k = false := by rw [sdf_bit, Nat.testBit_two_pow]; simp
  refine ⟨?_, e⟩
  rw [← or_bit e]
  apply Nat.eq_of_testBit_eq
  intro i
  rw [Nat.testBit_or, sdf_bit, Nat.testBit_two_pow]
  by_cases q : k = i
  · subst q; simp [h]
  · simp [q]
theorem bit_lt {b n k : Nat} (hb : b < 2 ^ n) (h : b.testBit k = true) : k < n := by
  apply Nat.lt_of_not_le
  intro q
  rw [Nat.testBit_lt_two_pow (Nat.lt_of_lt_of_le hb (Nat.pow_le_pow_right (by omega) q))] at h
  exact Bool.noConfusion h
theorem or_lt {b n k : Nat} (hb : b < 2 ^ n) (hk : k < n) : b ||| 2 ^ k < 2 ^ n := Nat.or_lt_two_pow hb (Nat.pow_lt_pow_right (by omega) hk)
theorem sdf_lt {b c n : Nat} (hb : b < 2 ^ n) : sdf b c < 2 ^ n := by
  unfold sdf
  exact Nat.xor_lt_two_pow hb (Nat.lt_of_le_of_lt Nat.and_le_left hb)
theorem B_undo {xik : Int32} {xbc : Int32} {xnc : Int32} {xfc : Int32} {csw : Int32} {cca : Int32} {csi : Int32} {cab : Int32} {cun : Int32} {csg : Int32} {cfa : Nat → Int32} {che : Nat → Int32} {cst : Nat → Int32} {isw : Int32} {ica : Int32} {isi : Int32} {iab : Int32} {iun : Int32} {isg : Int32} {ifa : Nat → Int32} {ihe : Nat → Int32} {ist : Nat → Int32} {jsw : Int32} {jca : Int32} {jsi : Int32} {jab : Int32} {jun : Int32} {jsg : Int32} {jfa : Nat → Int32} {jhe : Nat → Int32} {jst : Nat → Int32} {tby : Nat → Int32} {tln : Int32} {qbi : Nat → Int32} {qhv : Nat → Int32} {qwo : Nat → Int32} {fab : Int64} {fbe : Int64} {w : Nat → Int32} {kp : Nat → Int32} {tx : Nat → Int32} {td : Int32} {rf : Nat → Int32} {fa : Int64} {fb : Int64} (hR : Rel xik xbc xnc xfc csw cca csi cab cun csg cfa che cst isw ica isi iab iun isg ifa ihe ist jsw jca jsi jab jun jsg jfa jhe jst tby tln qbi qhv qwo fab fbe w kp tx td rf fa fb) : ∃ (r0 : Int32) (xbc_z : Int32) (xnc_z : Int32) (xfc_z : Int32) (cab_z : Int32) (cun_z : Int32) (w_z : Nat → Int32) (rf_z : Nat → Int32), X_undo xbc xnc xfc cab cun che = some (r0, xbc_z, xnc_z, xfc_z, cab_z, cun_z) ∧ M_undo w rf = some (r0, w_z, rf_z) ∧ Rel xik xbc_z xnc_z xfc_z csw cca csi cab_z cun_z csg cfa che cst isw ica isi iab iun isg ifa ihe ist jsw jca jsi jab jun jsg jfa jhe jst tby tln qbi qhv qwo fab fbe w_z kp tx td rf_z fa fb := by
  obtain ⟨hC, hI, hT, hF, hS, hQ⟩ := hR
  obtain ⟨n, u, g, b, sv, cv, K, f, hh, hn, hu, hg, hb, hsv, hcv, rfl, rfl, rfl, rfl, rfl, rfl, w0, w1, w2, w3, w4, w5, hK, hKB, hst, hfu, hf⟩ := id hC
  simp only [Nat.zero_add] at w0 w1 w2 w3 w4 w5
  unfold X_undo M_undo C_takeBack
  rw [within_w, w4]
  simp only [bd1, ite_10]
  by_cases hu0 : u = 0
  · subst hu0
    rw [if_neg (show ¬ ((1 : Int32) ≤ nI 0 ∧ nI 0 ≤ 8) by decide), if_pos (show nI 0 = 0 from rfl), rm_no]
    simp only [bd3]
    rw [if_pos trivial, rx_no]
    exact ⟨_, _, _, _, _, _, _, _, rfl, rfl, hC, hI, hT, hF, st_no hS, hQ⟩
  · obtain ⟨v, rfl⟩ : ∃ v, u = v + 1 := ⟨u - 1, by omega⟩
    obtain ⟨q1, q2, q3, q4, q5⟩ := hf v (by omega)
    have hr : (1 : Int32) ≤ nI (v + 1) ∧ nI (v + 1) ≤ 8 := ⟨show nI 1 ≤ nI (v + 1) from nI_le (by omega) (by omega), show nI (v + 1) ≤ nI 8 from nI_le (by omega) (by omega)⟩
    have hs : nI (v + 1) - 1 = nI v := pk_sub (a := v + 1) (b := 1) (by omega)
    have hz : ¬ nI (v + 1) = 0 := fun e => absurd ((nI_eq (by omega) (by omega)).mp (show nI (v + 1) = nI 0 from e)) (by omega)
    rw [if_pos hr, if_neg hz, hs]
    simp only [bnd]
    rw [inb_t (by omega) (by omega), nI_clamp (by omega), q1, shl_N (by omega), or_N]
    simp only [ck, bd3]
    rw [if_neg (show ¬ (1 : Int32) = 0 by decide)]
    have ew : upd w 4 (nI v) 4 = nI v := pk_us
    rw [hfu] at q4 q5
    have hfv : b ||| 2 ^ hh v = f v := by rw [q4, or_bit q5]
    have hlt : f v < 2 ^ n := by rw [← hfv]; exact or_lt hb q2
    have hlt8 : f v < 256 := Nat.lt_of_lt_of_le hlt (Nat.pow_le_pow_right (by omega) hn)
    rw [ew, show (72 : Int32) + nI v = nI (72 + v) from nI_add 72 v, inb_t (by omega) (by omega), nI_clamp (by omega)]
    have e72 : upd w 4 (nI v) (72 + v) = nI (f v) := by rw [pk_un (by omega), show 72 + v = 0 + (72 + v) by omega]; exact q3
    rw [e72, hfv, bitc_N _ hlt8]
    have e5 : upd (upd w 4 (nI v)) 5 (nI (f v)) 5 = nI (f v) := pk_us
    simp only []
    rw [e5, ones_N _ hlt8]
    refine ⟨_, _, _, _, _, _, _, _, rfl, rfl, ?_, hI.cong (fun i hi _ => by rw [pk_un (by omega), pk_un (by omega)]), hT, hF, hS, hQ⟩
    refine ⟨n, v, g, f v, sv, cv, K, f, hh, hn, by omega, hg, hlt, hsv, hcv, rfl, rfl, rfl, rfl, rfl, rfl, w0, w1, w2, w3, rfl, rfl, ?_, hKB, ?_, rfl, ?_⟩
    · intro k j hk hj
      rw [pk_un (by omega), pk_un (by omega)]
      exact hK k j hk hj
    · intro i hi
      rw [pk_un (by omega), pk_un (by omega)]
      exact hst i hi
    · intro i hi
      rw [pk_un (by omega), pk_un (by omega)]
      exact hf i (by omega)
