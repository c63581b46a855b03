/-! PURE: goods, sets, needful, barrel, whose, safe -/
def addW (w : Nat → Int32) (o n b : Nat) (x2 x3 x4 x5 x6 x7 : Int32) : Nat → Int32 := upd (upd (upd (upd (upd (upd (upd (upd w (o + 6 + n) x2) (o + 14 + n) x3) (o + 22 + n) x4) (o + 30 + n) x5) (o + 38 + n) x6) (o + 46 + n) x7) (o + 5) (nI (b ||| 2 ^ n))) o (nI (n + 1))
theorem madds_N {o n b : Nat} {w : Nat → Int32} (ho : o + 80 ≤ 320) (hn : n < 8) (h0 : w o = nI n) (h5 : w (o + 5) = nI b) (x2 x3 x4 x5 x6 x7 : Int32) : M_adds (nI o) x2 x3 x4 x5 x6 x7 w = some (nI n, addW w o n b x2 x3 x4 x5 x6 x7) := by
  unfold M_adds addW
  simp only [bnd, Int32.add_zero]
  rw [inb_t (i := o) (by omega) (by omega), nI_clamp (n := o) (by omega), h0]
  rw [show nI o + 6 + nI n = nI (o + 6 + n) by rw [show (6 : Int32) = nI 6 from rfl, nI_add, nI_add], show nI o + 14 + nI n = nI (o + 14 + n) by rw [show (14 : Int32) = nI 14 from rfl, nI_add, nI_add], show nI o + 22 + nI n = nI (o + 22 + n) by rw [show (22 : Int32) = nI 22 from rfl, nI_add, nI_add], show nI o + 30 + nI n = nI (o + 30 + n) by rw [show (30 : Int32) = nI 30 from rfl, nI_add, nI_add], show nI o + 38 + nI n = nI (o + 38 + n) by rw [show (38 : Int32) = nI 38 from rfl, nI_add, nI_add], show nI o + 46 + nI n = nI (o + 46 + n) by rw [show (46 : Int32) = nI 46 from rfl, nI_add, nI_add], show nI o + 5 = nI (o + 5) from nI_add _ 5]
  rw [inb_t (i := o + 6 + n) (by omega) (by omega), inb_t (i := o + 14 + n) (by omega) (by omega), inb_t (i := o + 22 + n) (by omega) (by omega), inb_t (i := o + 30 + n) (by omega) (by omega), inb_t (i := o + 38 + n) (by omega) (by omega), inb_t (i := o + 46 + n) (by omega) (by omega), inb_t (i := o + 5) (by omega) (by omega)]
  rw [nI_clamp (n := o + 6 + n) (by omega), nI_clamp (n := o + 14 + n) (by omega), nI_clamp (n := o + 22 + n) (by omega), nI_clamp (n := o + 30 + n) (by omega), nI_clamp (n := o + 38 + n) (by omega), nI_clamp (n := o + 46 + n) (by omega), nI_clamp (n := o + 5) (by omega)]
  simp only [ck]
  have e5 : upd (upd (upd (upd (upd (upd w (o + 6 + n) x2) (o + 14 + n) x3) (o + 22 + n) x4) (o + 30 + n) x5) (o + 38 + n) x6) (o + 46 + n) x7 (o + 5) = nI b := by
    rw [pk_un (by omega), pk_un (by omega), pk_un (by omega), pk_un (by omega), pk_un (by omega), pk_un (by omega), h5]
  rw [e5, shl_N (by omega), or_N]
  have e0 : upd (upd (upd (upd (upd (upd (upd w (o + 6 + n) x2) (o + 14 + n) x3) (o + 22 + n) x4) (o + 30 + n) x5) (o + 38 + n) x6) (o + 46 + n) x7) (o + 5) (nI (b ||| 2 ^ n)) o = nI n := by
    rw [pk_un (by omega), pk_un (by omega), pk_un (by omega), pk_un (by omega), pk_un (by omega), pk_un (by omega), pk_un (by omega), h0]
  rw [e0, nI_1]
theorem addW_out {o n b : Nat} {w : Nat → Int32} {x2 x3 x4 x5 x6 x7 : Int32} {i : Nat} (hn : n < 8) (h : i < o ∨ o + 54 ≤ i ∨ (o + 1 ≤ i ∧ i ≤ o + 4)) : addW w o n b x2 x3 x4 x5 x6 x7 i = w i := by
  unfold addW
  rw [pk_un (by omega), pk_un (by omega), pk_un (by omega), pk_un (by omega), pk_un (by omega), pk_un (by omega), pk_un (by omega), pk_un (by omega)]
def six (v : Nat → Nat) (n : Nat) (K : Nat → Nat → Nat) (k j : Nat) : Nat := if k = n then v j else K k j
theorem addW_in {o n b : Nat} {w : Nat → Int32} {K : Nat → Nat → Nat} {v : Nat → Nat} (hn : n < 8) (hm : GMv n K w o) : GMv (n + 1) (six v n K) (addW w o n b (nI (v 0)) (nI (v 1)) (nI (v 2)) (nI (v 3)) (nI (v 4)) (nI (v 5))) o := by
  intro k j hk hj
  unfold six
  by_cases hkn : k = n
  · subst hkn
    rw [if_pos rfl]
    unfold addW
    rw [pk_un (by omega), pk_un (by omega)]
    rcases (show j = 0 ∨ j = 1 ∨ j = 2 ∨ j = 3 ∨ j = 4 ∨ j = 5 by omega) with rfl | rfl | rfl | rfl | rfl | rfl
    · rw [pk_un (by omega), pk_un (by omega), pk_un (by omega), pk_un (by omega), pk_un (by omega), show o + (6 + 8 * 0 + k) = o + 6 + k by omega, pk_us]
    · rw [pk_un (by omega), pk_un (by omega), pk_un (by omega), pk_un (by omega), show o + (6 + 8 * 1 + k) = o + 14 + k by omega, pk_us]
    · rw [pk_un (by omega), pk_un (by omega), pk_un (by omega), show o + (6 + 8 * 2 + k) = o + 22 + k by omega, pk_us]
    · rw [pk_un (by omega), pk_un (by omega), show o + (6 + 8 * 3 + k) = o + 30 + k by omega, pk_us]
    · rw [pk_un (by omega), show o + (6 + 8 * 4 + k) = o + 38 + k by omega, pk_us]
    · rw [show o + (6 + 8 * 5 + k) = o + 46 + k by omega, pk_us]
  · rw [if_neg hkn]
    unfold addW
    rw [pk_un (by omega), pk_un (by omega), pk_un (by omega), pk_un (by omega), pk_un (by omega), pk_un (by omega), pk_un (by omega), pk_un (by omega)]
    exact hm k j (by omega) hj
theorem six_KB {n : Nat} {K : Nat → Nat → Nat} {v : Nat → Nat} (hKB : KB n K) (h : v 0 ≤ 5 ∧ v 1 ≤ 3 ∧ v 2 ≤ 2 ∧ 1 ≤ v 3 ∧ v 3 ≤ 40 ∧ v 4 ≤ 60 ∧ v 5 ≤ 60) : KB (n + 1) (six v n K) := by
  intro k hk
  unfold six
  by_cases hkn : k = n
  · rw [if_pos hkn, if_pos hkn, if_pos hkn, if_pos hkn, if_pos hkn, if_pos hkn]
    exact h
  · rw [if_neg hkn, if_neg hkn, if_neg hkn, if_neg hkn, if_neg hkn, if_neg hkn]
    exact hKB k (by omega)
theorem cpb6 : ∀ n, n < 8 → cpb 0 (nI (n * 6)) 6 6 48 = true := by decide +kernel
theorem load_N {n b : Nat} {cun : Int32} {fc r : Nat → Int32} (hn : n < 8) : C_load (nI n) (nI b) cun fc r = some (nI n, nI (n + 1), nI (b ||| 2 ^ n), 0, va_cpy r fc 0 (n * 6) 6) := by
  unfold C_load
  rw [if_neg (show ¬ (8 : Int32) ≤ nI n from nI_ge (a := n) (b := 8) (by omega) (by omega)), shl_N (by omega), or_N, show nI n * 6 = nI (n * 6) from pk_mul n 6, cpb6 n hn, nI_clamp (by omega), nI_1]
  simp only [ck, bnd]
  rw [show nI (n + 1) - 1 = nI n from pk_sub (a := n + 1) (b := 1) (by omega)]
  rfl
theorem load_in {n : Nat} {fc r : Nat → Int32} {K : Nat → Nat → Nat} {v : Nat → Nat} (hn : n < 8) (hc : GCv n K fc) (hv : ∀ j, j < 6 → r j = nI (v j)) : GCv (n + 1) (six v n K) (va_cpy r fc 0 (n * 6) 6) := by
  intro k j hk hj
  unfold six
  by_cases hkn : k = n
  · subst hkn
    rw [if_pos rfl, pk_cpy_in (by omega) (by omega), show 0 + (6 * k + j - k * 6) = j by omega]
    exact hv j hj
  · rw [if_neg hkn, pk_cpy_out (by omega)]
    exact hc k j (by omega) hj
theorem B_goods {xik : Int32} {xng : Nat → Int32} {xbc : Int32} {xnc : Int32} {xfc : Int32} {csw : Int32} {cca : Int32} {csi : Int32} {cab : Int32} {cun : Int32} {csg : Int32} {cfa : Nat → Int32} {che : Nat → Int32} {cst : Nat → Int32} {isw : Int32} {ica : Int32} {isi : Int32} {iab : Int32} {iun : Int32} {isg : Int32} {ifa : Nat → Int32} {ihe : Nat → Int32} {ist : Nat → Int32} {jsw : Int32} {jca : Int32} {jsi : Int32} {jab : Int32} {jun : Int32} {jsg : Int32} {jfa : Nat → Int32} {jhe : Nat → Int32} {jst : Nat → Int32} {tby : Nat → Int32} {tln : Int32} {qbi : Nat → Int32} {qhv : Nat → Int32} {qwo : Nat → Int32} {fab : Int64} {fbe : Int64} {w : Nat → Int32} {kp : Nat → Int32} {tx : Nat → Int32} {td : Int32} {rf : Nat → Int32} {fa : Int64} {fb : Int64} (hR : Rel xik xbc xnc xfc csw cca csi cab cun csg cfa che cst isw ica isi iab iun isg ifa ihe ist jsw jca jsi jab jun jsg jfa jhe jst tby tln qbi qhv qwo fab fbe w kp tx td rf fa fb) (a1 : Int32) (a2 : Int32) (a3 : Int32) (a4 : Int32) (a5 : Int32) (a6 : Int32) : ∃ (r0 : Int32) (xng_z : Nat → Int32) (xbc_z : Int32) (xnc_z : Int32) (xfc_z : Int32) (csi_z : Int32) (cab_z : Int32) (cun_z : Int32) (cfa_z : Nat → Int32) (w_z : Nat → Int32) (rf_z : Nat → Int32), X_goods a1 a2 a3 a4 a5 a6 xng xbc xnc xfc csi cab cun cfa = some (r0, xng_z, xbc_z, xnc_z, xfc_z, csi_z, cab_z, cun_z, cfa_z) ∧ M_goods a1 a2 a3 a4 a5 a6 w rf = some (r0, w_z, rf_z) ∧ Rel xik xbc_z xnc_z xfc_z csw cca csi_z cab_z cun_z csg cfa_z che cst isw ica isi iab iun isg ifa ihe ist jsw jca jsi jab jun jsg jfa jhe jst tby tln qbi qhv qwo fab fbe w_z kp tx td rf_z fa fb := by
  obtain ⟨hC, hI, hT, hF, hS, hQ⟩ := hR
  obtain ⟨n, u, g, b, sv, cv, K, f, hh, hn, hu, hg, hb, hsv, hcv, rfl, rfl, rfl, rfl, rfl, rfl, w0, w1, w2, w3, w4, w5, hK, hKB, hst, hfu, hf⟩ := id hC
  have hc : GCv n K cfa := fun k j hk hj => (hK k j hk hj).1
  have hm : GMv n K w 0 := fun k j hk hj => (hK k j hk hj).2
  simp only [Nat.zero_add] at w0 w1 w2 w3 w4 w5
  unfold X_goods M_goods
  rw [show M_in a1.toInt64 0 5 = _ from in_w a1 0 5, mowner_w, show M_in a3.toInt64 0 2 = _ from in_w a3 0 2, show M_in a4.toInt64 1 40 = _ from in_w a4 1 40, show M_in a5.toInt64 0 60 = _ from in_w a5 0 60, show M_in a6.toInt64 0 60 = _ from in_w a6 0 60]
  simp only [bnd]
  rw [aw6]
  generalize hrow : upd (upd (upd (upd (upd (upd xng 0 a1) 1 a2) 2 a3) 3 a4) 4 a5) 5 a6 = row
  have r0 : row 0 = a1 := by rw [← hrow]; rfl
  have r1 : row 1 = a2 := by rw [← hrow]; rfl
  have r2 : row 2 = a3 := by rw [← hrow]; rfl
  have r3 : row 3 = a4 := by rw [← hrow]; rfl
  have r4 : row 4 = a5 := by rw [← hrow]; rfl
  have r5 : row 5 = a6 := by rw [← hrow]; rfl
  rw [r0, r1, r2, r3, r4, r5]
  simp only [bd1, ite_10]
  have bad : ∃ r0 xng_z xbc_z xnc_z xfc_z csi_z cab_z cun_z cfa_z w_z rf_z, (bd4 (X_refuse (-2) xbc xnc xfc) fun r_21 xbc_22 xnc_23 xfc_24 => some (r_21, row, xbc_22, xnc_23, xfc_24, nI n, nI b, nI u, cfa)) = some (r0, xng_z, xbc_z, xnc_z, xfc_z, csi_z, cab_z, cun_z, cfa_z) ∧ M_goods_70 w rf = some (r0, w_z, rf_z) ∧ Rel xik xbc_z xnc_z xfc_z (nI sv) (nI cv) csi_z cab_z cun_z (nI g) cfa_z che cst isw ica isi iab iun isg ifa ihe ist jsw jca jsi jab jun jsg jfa jhe jst tby tln qbi qhv qwo fab fbe w_z kp tx td rf_z fa fb := by
    unfold M_goods_70
    rw [rx_bad, rm_bad]
    exact ⟨_, _, _, _, _, _, _, _, _, _, _, rfl, rfl, hC, hI, hT, hF, st_bad hS, hQ⟩
  by_cases h1 : 0 ≤ a1 ∧ a1 ≤ 5
  case neg => rw [if_neg h1, if_neg (fun h => h1 h.1)]; exact bad
  by_cases h2 : 0 ≤ a2 ∧ a2 ≤ 3
  case neg => rw [if_pos h1, if_neg h2, if_neg (fun h => h2 h.2.1)]; exact bad
  by_cases h3 : 0 ≤ a3 ∧ a3 ≤ 2
  case neg => rw [if_pos h1, if_pos h2, if_neg h3, if_neg (fun h => h3 h.2.2.1)]; exact bad
  by_cases h4 : 1 ≤ a4 ∧ a4 ≤ 40
  case neg => rw [if_pos h1, if_pos h2, if_pos h3, if_neg h4, if_neg (fun h => h4 h.2.2.2.1)]; exact bad
  by_cases h5 : 0 ≤ a5 ∧ a5 ≤ 60
  case neg => rw [if_pos h1, if_pos h2, if_pos h3, if_pos h4, if_neg h5, if_neg (fun h => h5 h.2.2.2.2.1)]; exact bad
  by_cases h6 : 0 ≤ a6 ∧ a6 ≤ 60
  case neg => rw [if_pos h1, if_pos h2, if_pos h3, if_pos h4, if_pos h5, if_neg h6, if_neg (fun h => h6 h.2.2.2.2.2)]; exact bad
  rw [if_pos h1, if_pos h2, if_pos h3, if_pos h4, if_pos h5, if_pos h6, if_pos ⟨h1, h2, h3, h4, h5, h6⟩, w0]
  by_cases h8 : n = 8
  · subst h8
    unfold C_load
    rw [if_pos (show (8 : Int32) ≤ nI 8 by decide), if_pos (show nI 8 = (8 : Int32) from rfl), rm_full]
    simp only [bd5]
    rw [if_pos trivial, rx_full]
    exact ⟨_, _, _, _, _, _, _, _, _, _, _, rfl, rfl, hC, hI, hT, hF, st_full hS, hQ⟩
  · obtain ⟨v0, q0, rfl⟩ := rng (m := 5) rfl h1
    obtain ⟨v1, q1, rfl⟩ := rng (m := 3) rfl h2
    obtain ⟨v2, q2, rfl⟩ := rng (m := 2) rfl h3
    obtain ⟨v3, q3, rfl⟩ := rng (m := 40) rfl ⟨Int32.le_trans (by decide) h4.1, h4.2⟩
    obtain ⟨v4, q4, rfl⟩ := rng (m := 60) rfl h5
    obtain ⟨v5, q5, rfl⟩ := rng (m := 60) rfl h6
    have q3' : 1 ≤ v3 := (nI_leI (a := 1) (b := v3) (by omega) (by omega)).mp h4.1
    have hn8 : n < 8 := by omega
    have z8 : ¬ nI n = (8 : Int32) := fun e => h8 ((nI_eq (by omega) (by omega)).mp (show nI n = nI 8 from e))
    rw [if_neg z8, load_N hn8]
    simp only [bd5]
    rw [if_neg (nI_m1 (by omega))]
    have ha := madds_N (o := 0) (n := n) (b := b) (w := upd w 4 0) (by omega) hn8 (by rw [pk_un (by omega)]; exact w0) (by rw [pk_un (by omega)]; exact w5) (nI v0) (nI v1) (nI v2) (nI v3) (nI v4) (nI v5)
    rw [show M_adds 0 (nI v0) (nI v1) (nI v2) (nI v3) (nI v4) (nI v5) (upd w 4 0) = _ from ha]
    let v : Nat → Nat := fun j => if j = 0 then v0 else if j = 1 then v1 else if j = 2 then v2 else if j = 3 then v3 else if j = 4 then v4 else v5
    have hm4 : GMv n K (upd w 4 0) 0 := fun k j hk hj => by rw [pk_un (by omega)]; exact hm k j hk hj
    have hm' := addW_in (o := 0) (n := n) (b := b) (w := upd w 4 0) (v := v) hn8 hm4
    have hc' := load_in (n := n) (fc := cfa) (r := row) (v := v) hn8 hc (by
      intro j hj
      rcases (show j = 0 ∨ j = 1 ∨ j = 2 ∨ j = 3 ∨ j = 4 ∨ j = 5 by omega) with rfl | rfl | rfl | rfl | rfl | rfl
      · exact r0
      · exact r1
      · exact r2
      · exact r3
      · exact r4
      · exact r5)
    refine ⟨_, _, _, _, _, _, _, _, _, _, _, rfl, rfl, ?_, hI.cong (fun i hi _ => ?_), hT, hF, hS, hQ⟩
    · refine ⟨n + 1, 0, g, b ||| 2 ^ n, sv, cv, six v n K, fun _ => b ||| 2 ^ n, hh, by omega, by omega, hg, or_lt (Nat.lt_of_lt_of_le hb (Nat.pow_le_pow_right (by omega) (by omega))) (by omega), hsv, hcv, rfl, rfl, rfl, rfl, rfl, rfl, rfl, ?_, ?_, ?_, ?_, ?_, fun k j hk hj => ⟨hc' k j hk hj, hm' k j hk hj⟩, six_KB hKB ⟨q0, q1, q2, q3', q3, q4, q5⟩, ?_, rfl, fun i hi => absurd hi (by omega)⟩
      · rw [addW_out hn8 (by omega), pk_un (by omega)]; exact w1
      · rw [addW_out hn8 (by omega), pk_un (by omega)]; exact w2
      · rw [addW_out hn8 (by omega), pk_un (by omega)]; exact w3
      · rw [addW_out hn8 (by omega)]; exact pk_us
      · rfl
      · intro i hi
        rw [addW_out hn8 (by omega), pk_un (by omega)]
        exact hst i hi
    · rw [addW_out hn8 (by omega), pk_un (by omega)]
/-- the set of what p holds of -/
def mkS (p : Nat → Bool) : Nat → Nat
  | 0 => 0
  | n + 1 => if p n = true then mkS p n ||| 2 ^ n else mkS p n
theorem mkS_bit (p : Nat → Bool) : ∀ n i, (mkS p n).testBit i = (decide (i < n) && p i)
  | 0, i => by rw [mkS, Nat.zero_testBit]; simp
  | n + 1, i => by
    rw [mkS]
    by_cases h : p n = true
    · rw [if_pos h, Nat.testBit_or, mkS_bit p n i, Nat.testBit_two_pow]
      by_cases e : n = i
      · subst e; simp [h]
      · simp [e]
        by_cases l : i < n
        · simp [l, show i < n + 1 by omega]
        · simp [l, show ¬ i < n + 1 by omega]
    · rw [if_neg h, mkS_bit p n i]
      by_cases e : n = i
      · subst e; simp [h]
      · by_cases l : i < n
        · simp [l, show i < n + 1 by omega]
        · simp [l, show ¬ i < n + 1 by omega]
theorem lt_bits {a n : Nat} (h : ∀ i, n ≤ i → a.testBit i = false) : a < 2 ^ n := Nat.lt_pow_two_of_testBit a h
theorem mkS_lt (p : Nat → Bool) (n : Nat) : mkS p n < 2 ^ n := lt_bits (fun i hi => by rw [mkS_bit]; simp; omega)
theorem mkS_eq {p : Nat → Bool} {a n : Nat} (h : ∀ i, a.testBit i = (decide (i < n) && p i)) : a = mkS p n := Nat.eq_of_testBit_eq (fun i => by rw [h, mkS_bit])
theorem mkS_cong {p q : Nat → Bool} : ∀ {n : Nat}, (∀ i, i < n → p i = q i) → mkS p n = mkS q n
  | 0, _ => rfl
  | n + 1, h => by rw [mkS, mkS, mkS_cong (fun i hi => h i (by omega)), h n (by omega)]
/-- all but what is on board -/
def gon (n b : Nat) : Nat := sdf (2 ^ n - 1) b
theorem gon_bit (n b i : Nat) : (gon n b).testBit i = (decide (i < n) && !b.testBit i) := by
  unfold gon
  rw [sdf_bit, Nat.testBit_two_pow_sub_one]
theorem gon_lt (n b : Nat) : gon n b < 2 ^ n := lt_bits (fun i hi => by rw [gon_bit]; simp; omega)
theorem gon_eq {n b : Nat} (hn : n ≤ 8) : (((1 : Int32) <<< (nI n &&& 31)) - 1) &&& (nI b ^^^ (-1)) = nI (gon n b) := by
  rw [shl_N (by omega), show nI (2 ^ n) - 1 = nI (2 ^ n - 1) from pk_sub (a := 2 ^ n) (b := 1) (Nat.two_pow_pos n), andn_N]
  rfl
theorem cgone_N {n b : Nat} (hn : n ≤ 8) : C_gone (nI n) (nI b) = some (nI (gon n b)) := by
  unfold C_gone
  rw [gon_eq hn]
theorem mthr_N {n b : Nat} {w : Nat → Int32} (hn : n ≤ 8) (h0 : w 0 = nI n) (h5 : w 5 = nI b) : M_thrownSet w = some (nI (gon n b)) := by
  unfold M_thrownSet
  rw [h0, h5, gon_eq hn]
theorem coutl_N {n S cv : Nat} {K : Nat → Nat → Nat} {fc : Nat → Int32} (hc : GCv n K fc) (hn : n ≤ 8) (hS : S < 2 ^ 31) (a : Int32) : C_outlives a (nI S) (nI cv) (nI n) fc = some (bI (!decide (nI cv - a < nI (sm (inS S (fun k => K k 3)) n)))) := by
  unfold C_outlives
  rw [show (3 : Int32) = nI 3 from rfl, total_N hc hn (by omega) hS]
  simp only [bd1]
  by_cases h : nI cv - a < nI (sm (inS S (fun k => K k 3)) n)
  · rw [if_pos h, decide_eq_true h]; rfl
  · rw [if_neg h, decide_eq_false h]; rfl
theorem malive_N {n S cv : Nat} {K : Nat → Nat → Nat} {w : Nat → Int32} (hm : GMv n K w 0) (h0 : w 0 = nI n) (h2 : w 2 = nI cv) (hn : n ≤ 8) (hS : S < 2 ^ 31) (a : Int32) : M_isAlive (nI S) a w = some (bI (!decide (nI cv - a < nI (sm (inS S (fun k => K k 3)) n)))) := by
  unfold M_isAlive
  rw [heavy_N hm h0 hn hS, h2]
  simp only [bd1]
  by_cases h : nI cv - a < nI (sm (inS S (fun k => K k 3)) n)
  · rw [if_pos h, decide_eq_true h]; rfl
  · rw [if_neg h, decide_eq_false h]; rfl
/-- k was needful -/
def ndB (n b cv : Nat) (K : Nat → Nat → Nat) (a : Int32) (k : Nat) : Bool := (gon n b).testBit k && decide (nI cv - a < nI (sm (inS (b ||| 2 ^ k) (fun k => K k 3)) n))
theorem xneed_L {n b cv : Nat} {K : Nat → Nat → Nat} {fc : Nat → Int32} (hc : GCv n K fc) (hn : n ≤ 8) (hb : b < 2 ^ n) (a xbc xnc xfc : Int32) : ∀ d k fuel, k + d = n → d < fuel → X_needful_L27 fuel a (nI (gon n b)) (nI (mkS (ndB n b cv K a) k)) (nI k) xbc xnc xfc (nI cv) (nI n) (nI b) fc = some (nI (mkS (ndB n b cv K a) n), xbc, xnc, xfc) := by
  have g8 := lt256 (gon_lt n b) hn
  intro d
  induction d with
  | zero =>
    intro k fuel hk hf
    obtain ⟨g, rfl⟩ := fuel1 hf
    have hk : k = n := by omega
    subst hk
    rw [X_needful_L27, X_needful_27, if_pos (nI_le (by omega) (by omega))]
  | succ d ih =>
    intro k fuel hk hf
    obtain ⟨g, rfl⟩ := fuel1 hf
    have h := ih (k + 1) g (by omega) (by omega)
    have hl := lt256 (or_lt hb (show k < n by omega)) hn
    rw [X_needful_L27, X_needful_27, if_neg (nI_ge (by omega) (by omega)), isIn_N (by omega) (by omega)]
    simp only [bd1, bnd, ite_10]
    rw [shl_N (by omega), or_N, coutl_N hc hn (by omega), nI_1]
    simp only [bI_ite]
    rw [or_N]
    rw [mkS] at h
    unfold ndB at h ⊢
    by_cases q : (gon n b).testBit k = true
    · rw [if_pos q]
      rw [q, Bool.true_and] at h
      by_cases r : nI cv - a < nI (sm (inS (b ||| 2 ^ k) (fun k => K k 3)) n)
      · rw [if_neg (by simp [r])]
        rw [if_pos (decide_eq_true r)] at h
        exact h
      · rw [if_pos (by simp [r])]
        rw [if_neg (by simp [r])] at h
        exact h
    · rw [if_neg q]
      rw [if_neg (by simp [q])] at h
      exact h
theorem mneed_L {n b cv : Nat} {K : Nat → Nat → Nat} {w rf : Nat → Int32} (hm : GMv n K w 0) (h0 : w 0 = nI n) (h2 : w 2 = nI cv) (h5 : w 5 = nI b) (hn : n ≤ 8) (hb : b < 2 ^ n) (a : Int32) : ∀ d k fuel, k + d = n → d < fuel → M_needful_L16 fuel a (nI (mkS (ndB n b cv K a) k)) (nI k) w rf = some (nI (mkS (ndB n b cv K a) n), rf) := by
  have g8 := lt256 (gon_lt n b) hn
  intro d
  induction d with
  | zero =>
    intro k fuel hk hf
    obtain ⟨g, rfl⟩ := fuel1 hf
    have hk : k = n := by omega
    subst hk
    rw [M_needful_L16, M_needful_16, h0, if_pos (nI_le (by omega) (by omega))]
  | succ d ih =>
    intro k fuel hk hf
    obtain ⟨g, rfl⟩ := fuel1 hf
    have h := ih (k + 1) g (by omega) (by omega)
    have hl := lt256 (or_lt hb (show k < n by omega)) hn
    rw [M_needful_L16, M_needful_16, h0, if_neg (nI_ge (by omega) (by omega)), mthr_N hn h0 h5]
    simp only [bd1, bnd]
    rw [has_N (by omega) (by omega)]
    simp only [ite_10]
    rw [h5, shl_N (by omega), or_N, malive_N hm h0 h2 hn (by omega), nI_1]
    simp only [bI_ite]
    rw [or_N, show nI (mkS (ndB n b cv K a) k) ||| 0 = nI (mkS (ndB n b cv K a) k) from Int32.or_zero]
    rw [mkS] at h
    unfold ndB at h ⊢
    by_cases q : (gon n b).testBit k = true
    · rw [if_pos q]
      rw [q, Bool.true_and] at h
      by_cases r : nI cv - a < nI (sm (inS (b ||| 2 ^ k) (fun k => K k 3)) n)
      · rw [if_neg (by simp [r])]
        rw [if_pos (decide_eq_true r)] at h
        exact h
      · rw [if_pos (by simp [r])]
        rw [if_neg (by simp [r])] at h
        exact h
    · rw [if_neg q]
      rw [if_neg (by simp [q])] at h
      exact h
theorem B_needful {xik : Int32} {xbc : Int32} {xnc : Int32} {xfc : Int32} {csw : Int32} {cca : Int32} {csi : Int32} {cab : Int32} {cun : Int32} {csg : Int32} {cfa : Nat → Int32} {che : Nat → Int32} {cst : Nat → Int32} {isw : Int32} {ica : Int32} {isi : Int32} {iab : Int32} {iun : Int32} {isg : Int32} {ifa : Nat → Int32} {ihe : Nat → Int32} {ist : Nat → Int32} {jsw : Int32} {jca : Int32} {jsi : Int32} {jab : Int32} {jun : Int32} {jsg : Int32} {jfa : Nat → Int32} {jhe : Nat → Int32} {jst : Nat → Int32} {tby : Nat → Int32} {tln : Int32} {qbi : Nat → Int32} {qhv : Nat → Int32} {qwo : Nat → Int32} {fab : Int64} {fbe : Int64} {w : Nat → Int32} {kp : Nat → Int32} {tx : Nat → Int32} {td : Int32} {rf : Nat → Int32} {fa : Int64} {fb : Int64} (hR : Rel xik xbc xnc xfc csw cca csi cab cun csg cfa che cst isw ica isi iab iun isg ifa ihe ist jsw jca jsi jab jun jsg jfa jhe jst tby tln qbi qhv qwo fab fbe w kp tx td rf fa fb) (a1 : Int32) : ∃ (r0 : Int32) (xbc_z : Int32) (xnc_z : Int32) (xfc_z : Int32) (rf_z : Nat → Int32), X_needful a1 xbc xnc xfc cca csi cab cfa = some (r0, xbc_z, xnc_z, xfc_z) ∧ M_needful a1 w rf = some (r0, rf_z) ∧ Rel xik xbc_z xnc_z xfc_z csw cca csi cab cun csg cfa che cst isw ica isi iab iun isg ifa ihe ist jsw jca jsi jab jun jsg jfa jhe jst tby tln qbi qhv qwo fab fbe w kp tx td rf_z fa fb := by
  obtain ⟨hC, hI, hT, hF, hS, hQ⟩ := hR
  obtain ⟨n, u, g, b, sv, cv, K, f, hh, hn, hu, hg, hb, hsv, hcv, rfl, rfl, rfl, rfl, rfl, rfl, w0, w1, w2, w3, w4, w5, hK, hKB, hst, hfu, hf⟩ := id hC
  have hc : GCv n K cfa := fun k j hk hj => (hK k j hk hj).1
  have hm : GMv n K w 0 := fun k j hk hj => (hK k j hk hj).2
  simp only [Nat.zero_add] at w0 w1 w2 w3 w4 w5
  unfold X_needful M_needful
  rw [xstorm_w, mstorm_w, cgone_N hn]
  simp only [bd1, ite_10]
  by_cases h : 0 ≤ a1 ∧ a1 ≤ 200
  · rw [if_pos h, if_pos h]
    exact ⟨_, _, _, _, _, xneed_L hc hn hb a1 xbc xnc xfc n 0 FU (by omega) (by unfold FU; omega), mneed_L hm w0 w2 w5 hn hb a1 n 0 FU (by omega) (by unfold FU; omega), hC, hI, hT, hF, hS, hQ⟩
  · rw [if_neg h, if_neg h, rx_bad, rm_bad]
    exact ⟨_, _, _, _, _, rfl, rfl, hC, hI, hT, hF, st_bad hS, hQ⟩
theorem msafe_L {w : Nat → Int32} {b cv n : Nat} {K : Nat → Nat → Nat} (hm : GMv n K w 0) (h0 : w 0 = nI n) (h2 : w 2 = nI cv) (h5 : w 5 = nI b) (hn : n ≤ 8) (hb : b < 2 ^ 31) (hcv : cv ≤ 200) {t : Nat} (ht : t = sm (inS b (fun k => K k 3)) n) (hlt : t < 2 ^ 30) : ∀ d k fuel, k + d = 201 → d < fuel → M_safe_L4 fuel (if t ≤ cv ∧ 0 < k then nI (min (k - 1) (cv - t)) else -1) (nI k) w = some (if t ≤ cv then nI (cv - t) else -1) := by
  intro d
  induction d with
  | zero =>
    intro k fuel hk hf
    obtain ⟨g, rfl⟩ := fuel1 hf
    have hk : k = 201 := by omega
    subst hk
    rw [M_safe_L4, M_safe_4, if_pos (by decide)]
    by_cases q : t ≤ cv
    · rw [if_pos ⟨q, by omega⟩, if_pos q, show min (201 - 1) (cv - t) = cv - t by omega]
    · rw [if_neg (fun h => q h.1), if_neg q]
  | succ d ih =>
    intro k fuel hk hf
    obtain ⟨g, rfl⟩ := fuel1 hf
    have h := ih (k + 1) g (by omega) (by omega)
    rw [M_safe_L4, M_safe_4, if_neg (show ¬ (200 : Int32) < nI k from Int32.not_lt.mpr (show nI k ≤ nI 200 from nI_le (by omega) (by omega))), h5, malive_N hm h0 h2 hn hb, ← ht]
    simp only [bd1, bnd, bI_ite]
    rw [nI_1]
    have hiff : (nI cv - nI k < nI t) ↔ ((cv : Int) - k < t) := by
      rw [Int32.lt_iff_toInt_lt, pk_sub_toInt (by omega) (by omega), nI_toInt (by omega)]
    by_cases r : nI cv - nI k < nI t
    · rw [if_neg (by simp [r])]
      have r' := hiff.mp r
      rw [← h]
      congr 1
      by_cases q : t ≤ cv
      · rw [if_pos ⟨q, by omega⟩, if_pos ⟨q, by omega⟩]
        congr 1
        omega
      · rw [if_neg (fun h => q h.1), if_neg (fun h => q h.1)]
    · rw [if_pos (by simp [r])]
      have r' : ¬ ((cv : Int) - k < t) := fun q => r (hiff.mpr q)
      rw [← h]
      congr 1
      rw [if_pos ⟨by omega, by omega⟩]
      congr 1
      omega
theorem B_safe {xik : Int32} {xbc : Int32} {xnc : Int32} {xfc : Int32} {csw : Int32} {cca : Int32} {csi : Int32} {cab : Int32} {cun : Int32} {csg : Int32} {cfa : Nat → Int32} {che : Nat → Int32} {cst : Nat → Int32} {isw : Int32} {ica : Int32} {isi : Int32} {iab : Int32} {iun : Int32} {isg : Int32} {ifa : Nat → Int32} {ihe : Nat → Int32} {ist : Nat → Int32} {jsw : Int32} {jca : Int32} {jsi : Int32} {jab : Int32} {jun : Int32} {jsg : Int32} {jfa : Nat → Int32} {jhe : Nat → Int32} {jst : Nat → Int32} {tby : Nat → Int32} {tln : Int32} {qbi : Nat → Int32} {qhv : Nat → Int32} {qwo : Nat → Int32} {fab : Int64} {fbe : Int64} {w : Nat → Int32} {kp : Nat → Int32} {tx : Nat → Int32} {td : Int32} {rf : Nat → Int32} {fa : Int64} {fb : Int64} (hR : Rel xik xbc xnc xfc csw cca csi cab cun csg cfa che cst isw ica isi iab iun isg ifa ihe ist jsw jca jsi jab jun jsg jfa jhe jst tby tln qbi qhv qwo fab fbe w kp tx td rf fa fb) : ∃ (r0 : Int32), X_safe cca csi cab cfa = some r0 ∧ M_safe w = some r0 ∧ Rel xik xbc xnc xfc csw cca csi cab cun csg cfa che cst isw ica isi iab iun isg ifa ihe ist jsw jca jsi jab jun jsg jfa jhe jst tby tln qbi qhv qwo fab fbe w kp tx td rf fa fb := by
  obtain ⟨hC, hI, hT, hF, hS, hQ⟩ := hR
  obtain ⟨n, u, g, b, sv, cv, K, f, hh, hn, hu, hg, hb, hsv, hcv, rfl, rfl, rfl, rfl, rfl, rfl, w0, w1, w2, w3, w4, w5, hK, hKB, hst, hfu, hf⟩ := id hC
  have hc : GCv n K cfa := fun k j hk hj => (hK k j hk hj).1
  have hm : GMv n K w 0 := fun k j hk hj => (hK k j hk hj).2
  have hb8 := lt256 hb hn
  simp only [Nat.zero_add] at w0 w1 w2 w3 w4 w5
  have hle : sm (inS b (fun k => K k 3)) n ≤ n * 40 := sm_le (fun k hk => by
    unfold inS
    split
    · exact (hKB k hk).2.2.2.2.1
    · omega)
  generalize ht : sm (inS b (fun k => K k 3)) n = t at hle
  have hM := msafe_L hm w0 w2 w5 hn (by omega) hcv ht.symm (by omega) 201 0 FU (by omega) (by unfold FU; omega)
  rw [if_neg (by omega)] at hM
  have hX : X_safe (nI cv) (nI n) (nI b) cfa = some (if t ≤ cv then nI (cv - t) else -1) := by
    unfold X_safe
    rw [show (3 : Int32) = nI 3 from rfl, total_N hc hn (by omega) (by omega), ht]
    simp only [bd1, bnd]
    by_cases q : t ≤ cv
    · rw [if_pos q, pk_sub q, if_pos (nI_pos' (by omega)), if_neg (show ¬ (200 : Int32) < nI (cv - t) from Int32.not_lt.mpr (show nI (cv - t) ≤ nI 200 from nI_le (by omega) (by omega)))]
    · rw [if_neg q, if_neg]
      intro h
      rw [Int32.le_iff_toInt_le, pk_sub_toInt (by omega) (by omega)] at h
      have : (0 : Int32).toInt = 0 := rfl
      omega
  exact ⟨_, hX, hM, hC, hI, hT, hF, hS, hQ⟩
