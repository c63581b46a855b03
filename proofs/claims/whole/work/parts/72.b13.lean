/-! PURE: voyages, stow -/
theorem mov_0 {n : Nat} {K : Nat → Nat → Nat} (y : Int32) : Mov n K (-1) y (fun i => K i 2) (fun i => i) := Or.inl ⟨rfl, fun _ => rfl, fun _ => rfl⟩
theorem voy_L {n cv j2 : Nat} {K : Nat → Nat → Nat} {fc w rf : Nat → Int32} {xbc xnc xfc cab : Int32} (hc : GCv n K fc) (hm : GMv n K w 0) (h0 : w 0 = nI n) (h2 : w 2 = nI cv) (hKB : KB n K) (hn : n ≤ 8) (hcv : cv ≤ 200) (hj : j2 ≤ 30) : ∀ d i fuel S v qhe qbi qhv qwo qts qbb qbc qbw lst lwo, i + d = j2 → d < fuel → S < 2 ^ n → v < 2 ^ 31 → Sch qbi qhv qwo → ∃ r a b c e u1 u2 u3 u4 l1 l2, X_voyages_L42 fuel (nI j2) (lN v) (nI S) (nI i) xbc xnc xfc (nI cv) (nI n) cab fc qhe qbi qhv qwo qts qbb qbc qbw = some (r, xbc, xnc, xfc, a, b, c, e, u1, u2, u3, u4) ∧ Sch b c e ∧ M_voyages_L43 fuel (nI j2) (lN v) (nI S) (nI i) w rf lst lwo = some (r, rf, l1, l2) := by
  intro d
  induction d with
  | zero =>
    intro i fuel S v qhe qbi qhv qwo qts qbb qbc qbw lst lwo hi hf hS hv hq
    obtain ⟨g, rfl⟩ := fuel1 hf
    have hi : i = j2 := by omega
    subst hi
    have hS8 := lt256 hS hn
    have ht : C_total (nI S) 4 (nI n) fc = some (nI (wor n K S)) := total_N (j := 4) hc hn (by omega) (by omega)
    rw [X_voyages_L42, X_voyages_42, if_pos (nI_le (by omega) (by omega)), ht, bd1_s, M_voyages_L43, M_voyages_43, if_pos (nI_le (by omega) (by omega)), worth_N hm h0 hn (by omega), bd1_s]
    exact ⟨_, _, _, _, _, _, _, _, _, _, _, rfl, hq, rfl⟩
  | succ d ih =>
    intro i fuel S v qhe qbi qhv qwo qts qbb qbc qbw lst lwo hi hf hS hv hq
    obtain ⟨g, rfl⟩ := fuel1 hf
    have hS8 := lt256 hS hn
    have e1 : lN v * 1103515245 + 12345 = lN (v * 1103515245 + 12345) := by
      rw [show (1103515245 : Int64) = lN 1103515245 from rfl, show (12345 : Int64) = lN 12345 from rfl, lN_mul, lN_add]
    have e2 : lN (v * 1103515245 + 12345) - lN (v * 1103515245 + 12345) / 2147483648 * 2147483648 = lN ((v * 1103515245 + 12345) % 2147483648) := by
      rw [show (2147483648 : Int64) = lN 2147483648 from rfl]
      exact pk_lRem (by omega) (by omega) (by omega)
    have hv' : (v * 1103515245 + 12345) % 2147483648 < 2 ^ 31 := by omega
    generalize (v * 1103515245 + 12345) % 2147483648 = v' at e2 hv'
    have e3 : (lN v' / 65536 - lN v' / 65536 / 61 * 61).toInt32 = nI (v' / 65536 % 61) := by
      rw [show (65536 : Int64) = lN 65536 from rfl, show (61 : Int64) = lN 61 from rfl, pk_lDiv (by omega) (by omega) (by omega), pk_lRem (by omega) (by omega) (by omega), lN_i]
    have ht : (nI (v' / 65536 % 61)).toInt = (v' / 65536 % 61 : Nat) := nI_toInt (by omega)
    obtain ⟨r, a, b, c, e, u1, u2, u3, u4, lw, f1, f2, f3, f4⟩ := both_N (S := S) (x := nI (v' / 65536 % 61)) (qhe := qhe) (qts := qts) (qbb := qbb) (qbc := qbc) (qbw := qbw) (lst := lst) (lwo := lwo) (mov_0 (-1)) (mov_0 0) (fun _ => rfl) (fun m hm e => absurd e.symm (nI_m1 (by omega))) hc hm h0 h2 hKB hn hS hcv (by omega) (by omega) hq
    rw [X_voyages_L42, X_voyages_42, if_neg (nI_ge (by omega) (by omega)), M_voyages_L43, M_voyages_43, if_neg (nI_ge (by omega) (by omega))]
    unfold Q_find
    simp only [bnd]
    rw [e1, e2, e3, f1, f3]
    simp only [bd9, bd2]
    rcases f4 with ⟨T, t1, t2, rfl, rfl⟩ | rfl
    · have hT8 := lt256 t1 hn
      rw [if_neg (nI_m1 (by omega)), if_neg (nI_m1 (by omega)), andn_N, nI_1]
      exact ih (i + 1) g (sdf S T) v' a b c e u1 u2 u3 u4 _ _ (by omega) (by omega) (sdf_lt hS) hv' f2
    · rw [if_pos rfl, if_pos rfl]
      exact ⟨_, _, _, _, _, _, _, _, _, _, _, rfl, f2, rfl⟩
theorem B_voyages {xik : Int32} {xbc : Int32} {xnc : Int32} {xfc : Int32} {csw : Int32} {cca : Int32} {csi : Int32} {cab : Int32} {cun : Int32} {csg : Int32} {cfa : Nat → Int32} {che : Nat → Int32} {cst : Nat → Int32} {isw : Int32} {ica : Int32} {isi : Int32} {iab : Int32} {iun : Int32} {isg : Int32} {ifa : Nat → Int32} {ihe : Nat → Int32} {ist : Nat → Int32} {jsw : Int32} {jca : Int32} {jsi : Int32} {jab : Int32} {jun : Int32} {jsg : Int32} {jfa : Nat → Int32} {jhe : Nat → Int32} {jst : Nat → Int32} {tby : Nat → Int32} {tln : Int32} {qhe : Nat → Int32} {qbi : Nat → Int32} {qhv : Nat → Int32} {qwo : Nat → Int32} {qts : Int32} {qbb : Int32} {qbc : Int32} {qbw : Int32} {fab : Int64} {fbe : Int64} {w : Nat → Int32} {kp : Nat → Int32} {tx : Nat → Int32} {td : Int32} {rf : Nat → Int32} {fa : Int64} {fb : Int64} {lst : Int32} {lwo : Int32} (hR : Rel xik xbc xnc xfc csw cca csi cab cun csg cfa che cst isw ica isi iab iun isg ifa ihe ist jsw jca jsi jab jun jsg jfa jhe jst tby tln qbi qhv qwo fab fbe w kp tx td rf fa fb) (a1 : Int32) (a2 : Int32) : ∃ (r0 : Int32) (xbc_z : Int32) (xnc_z : Int32) (xfc_z : Int32) (qhe_z : Nat → Int32) (qbi_z : Nat → Int32) (qhv_z : Nat → Int32) (qwo_z : Nat → Int32) (qts_z : Int32) (qbb_z : Int32) (qbc_z : Int32) (qbw_z : Int32) (rf_z : Nat → Int32) (lst_z : Int32) (lwo_z : Int32), X_voyages a1 a2 xbc xnc xfc cca csi cab cfa qhe qbi qhv qwo qts qbb qbc qbw = some (r0, xbc_z, xnc_z, xfc_z, qhe_z, qbi_z, qhv_z, qwo_z, qts_z, qbb_z, qbc_z, qbw_z) ∧ M_voyages a1 a2 w rf lst lwo = some (r0, rf_z, lst_z, lwo_z) ∧ Rel xik xbc_z xnc_z xfc_z csw cca csi cab cun csg cfa che cst isw ica isi iab iun isg ifa ihe ist jsw jca jsi jab jun jsg jfa jhe jst tby tln qbi_z qhv_z qwo_z fab fbe w kp tx td rf_z fa fb := by
  obtain ⟨hC, hI, hT, hF, hS, hQ⟩ := hR
  obtain ⟨n, u, g, b, sv, cv, K, f, hh, hn, hu, hg, hb, hsv, hcv, rfl, rfl, rfl, rfl, rfl, rfl, w0, w1, w2, w3, w4, w5, hK, hKB, hst, hfu, hf⟩ := id hC
  have hc : GCv n K cfa := fun k j hk hj => (hK k j hk hj).1
  have hm : GMv n K w 0 := fun k j hk hj => (hK k j hk hj).2
  simp only [Nat.zero_add] at w0 w1 w2 w3 w4 w5
  unfold X_voyages M_voyages
  rw [within_w, within_w, show M_in a1.toInt64 0 999999 = _ from in_w a1 0 999999, show M_in a2.toInt64 0 30 = _ from in_w a2 0 30, bd1_s, bd1_s, bd1_s, bd1_s, ite_10, ite_10, ite_10, ite_10]
  by_cases h1 : 0 ≤ a1 ∧ a1 ≤ 999999
  case neg =>
    rw [if_neg h1, if_neg h1]
    unfold X_voyages_20 M_voyages_24
    rw [rx_bad, rm_bad]
    exact ⟨_, _, _, _, _, _, _, _, _, _, _, _, _, _, _, rfl, rfl, hC, hI, hT, hF, st_bad hS, hQ⟩
  rw [if_pos h1, if_pos h1]
  by_cases h2 : 0 ≤ a2 ∧ a2 ≤ 30
  case neg =>
    rw [if_neg h2, if_neg h2]
    unfold X_voyages_20 M_voyages_24
    rw [rx_bad, rm_bad]
    exact ⟨_, _, _, _, _, _, _, _, _, _, _, _, _, _, _, rfl, rfl, hC, hI, hT, hF, st_bad hS, hQ⟩
  rw [if_pos h2, if_pos h2]
  obtain ⟨v, hv, rfl⟩ := rng (m := 999999) rfl h1
  obtain ⟨j2, hj2, rfl⟩ := rng (m := 30) rfl h2
  obtain ⟨r, a, b', c, e, u1, u2, u3, u4, l1, l2, e1, e2, e3⟩ := voy_L (rf := rf) (xbc := xbc) (xnc := xnc) (xfc := xfc) (cab := nI b) hc hm w0 w2 hKB hn hcv hj2 j2 0 FU b v qhe qbi qhv qwo qts qbb qbc qbw lst lwo (by omega) (by unfold FU; omega) hb (by omega) hQ
  simp only [bnd]
  rw [nI_l (by omega), w5, show (0 : Int32) = nI 0 from rfl]
  exact ⟨_, _, _, _, _, _, _, _, _, _, _, _, _, _, _, e1, e3, hC, hI, hT, hF, hS, e2⟩
theorem stow_L {n b m cv : Nat} {K : Nat → Nat → Nat} {fc w rf : Nat → Int32} {xbc xnc xfc x : Int32} (hc : GCv n K fc) (hg : GMv n K w 0) (h0 : w 0 = nI n) (h2 : w 2 = nI cv) (h5 : w 5 = nI b) (hKB : KB n K) (hn : n ≤ 8) (hcv : cv ≤ 200) (hb : b < 2 ^ n) (hm : m < n) (hbm : b.testBit m = true) (l1 : -1000 ≤ x.toInt) (l2 : x.toInt ≤ 1000) : ∀ d h fuel qhe qbi qhv qwo qts qbb qbc qbw lst lwo, h + d = 4 → d < fuel → Sch qbi qhv qwo → ∃ r a b' c e u1 u2 u3 u4 l1 l2, X_stow_L48 fuel (nI m) x (nI h) xbc xnc xfc (nI cv) (nI n) (nI b) fc qhe qbi qhv qwo qts qbb qbc qbw = some (r, xbc, xnc, xfc, a, b', c, e, u1, u2, u3, u4) ∧ Sch b' c e ∧ M_stow_L40 fuel (nI m) x (nI h) w rf lst lwo = some (r, rf, l1, l2) := by
  intro d
  induction d with
  | zero =>
    intro h fuel qhe qbi qhv qwo qts qbb qbc qbw lst lwo hh hf hq
    obtain ⟨g, rfl⟩ := fuel1 hf
    have hh : h = 4 := by omega
    subst hh
    rw [X_stow_L48, X_stow_48, if_pos (by decide), M_stow_L40, M_stow_40, if_pos (by decide)]
    exact ⟨_, _, _, _, _, _, _, _, _, _, _, rfl, hq, rfl⟩
  | succ d ih =>
    intro h fuel qhe qbi qhv qwo qts qbb qbc qbw lst lwo hh hf hq
    obtain ⟨g, rfl⟩ := fuel1 hf
    have hlt : ¬ (3 : Int32) < nI h := Int32.not_lt.mpr (show nI h ≤ nI 3 from nI_le (by omega) (by omega))
    have fin : ∀ r a b' c e u1 u2 u3 u4 lw, Sch b' c e → ((∃ T, T < 2 ^ n ∧ r = nI T) ∨ r = -1) → ∃ r' a' b'' c' e' u1' u2' u3' u4' l1 l2, X_stow_94 (X_stow_L48 g) (nI m) x (nI h) r xbc xnc xfc (nI cv) (nI n) (nI b) fc a b' c e u1 u2 u3 u4 = some (r', xbc, xnc, xfc, a', b'', c', e', u1', u2', u3', u4') ∧ Sch b'' c' e' ∧ (if r = (-1 : Int32) then M_stow_L40 g (nI m) x (nI (h + 1)) w rf r lw else bd1 (M_has r (nI m)) (fun r_5 => if r_5 = 0 then some (nI h, rf, r, lw) else M_stow_L40 g (nI m) x (nI (h + 1)) w rf r lw)) = some (r', rf, l1, l2) := by
      intro r a b' c e u1 u2 u3 u4 lw hs hr
      unfold X_stow_94
      simp only [bnd]
      rw [nI_1]
      rcases hr with ⟨T, t1, rfl⟩ | rfl
      · have hT8 := lt256 t1 hn
        rw [if_neg (nI_m1 (by omega)), if_neg (nI_m1 (by omega)), isIn_N (by omega) (by omega), has_N (by omega) (by omega), bd1_s, bd1_s, ite_10, ite_10]
        by_cases q : T.testBit m = true
        · rw [if_pos q, if_pos q]
          exact ih (h + 1) g a b' c e u1 u2 u3 u4 _ _ (by omega) (by omega) hs
        · rw [if_neg q, if_neg q]
          exact ⟨_, _, _, _, _, _, _, _, _, _, _, rfl, hs, rfl⟩
      · rw [if_pos rfl, if_pos rfl]
        exact ih (h + 1) g a b' c e u1 u2 u3 u4 _ _ (by omega) (by omega) hs
    rw [X_stow_L48, X_stow_48, if_neg hlt, M_stow_L40, M_stow_40, if_neg hlt, h5]
    unfold Q_find Q_findStowed M_stow_63
    simp only [bnd]
    rw [nI_1]
    by_cases h3 : h = 3
    · subst h3
      rw [if_pos (show nI 3 = (3 : Int32) from rfl), if_pos (show nI 3 = (3 : Int32) from rfl)]
      obtain ⟨r, a, b', c, e, u1, u2, u3, u4, lw, f1, f2, f3, f4⟩ := both_N (S := b) (x := x) (qhe := qhe) (qts := qts) (qbb := qbb) (qbc := qbc) (qbw := qbw) (lst := lst) (lwo := lwo) (mov_0 (-1)) (mov_0 (nI 3)) (fun _ => rfl) (fun m hm e => absurd e.symm (nI_m1 (by omega))) hc hg h0 h2 hKB hn hb hcv l1 l2 hq
      rw [f1, f3]
      simp only [bd9, bd2]
      refine fin r a b' c e u1 u2 u3 u4 lw f2 ?_
      rcases f4 with ⟨T, t1, t2, t3, t4⟩ | q
      · exact Or.inl ⟨T, t1, t3⟩
      · exact Or.inr q
    · have q3 : ¬ nI h = (3 : Int32) := fun e => h3 ((nI_eq (by omega) (by omega)).mp (show nI h = nI 3 from e))
      rw [if_neg q3, if_neg q3]
      have hM : Mov n K (nI m) (nI h) (fun i => if i = m then h else K i 2) (fun i => if i = m then 8 else i) := Or.inr ⟨m, h, hm, by omega, rfl, rfl, fun _ => rfl, fun _ => rfl⟩
      obtain ⟨r, a, b', c, e, u1, u2, u3, u4, lw, f1, f2, f3, f4⟩ := both_N (S := b) (x := x) (qhe := qhe) (qts := qts) (qbb := qbb) (qbc := qbc) (qbw := qbw) (lst := lst) (lwo := lwo) hM hM (fun q => absurd q (nI_m1 (by omega))) (fun m' hm' e => by have := (nI_eq (by omega) (by omega)).mp e; rw [← this]; exact hbm) hc hg h0 h2 hKB hn hb hcv l1 l2 hq
      rw [f1, f3]
      simp only [bd9, bd2]
      refine fin r a b' c e u1 u2 u3 u4 lw f2 ?_
      rcases f4 with ⟨T, t1, t2, t3, t4⟩ | q
      · exact Or.inl ⟨T, t1, t3⟩
      · exact Or.inr q
theorem B_stow {xik : Int32} {xbc : Int32} {xnc : Int32} {xfc : Int32} {csw : Int32} {cca : Int32} {csi : Int32} {cab : Int32} {cun : Int32} {csg : Int32} {cfa : Nat → Int32} {che : Nat → Int32} {cst : Nat → Int32} {isw : Int32} {ica : Int32} {isi : Int32} {iab : Int32} {iun : Int32} {isg : Int32} {ifa : Nat → Int32} {ihe : Nat → Int32} {ist : Nat → Int32} {jsw : Int32} {jca : Int32} {jsi : Int32} {jab : Int32} {jun : Int32} {jsg : Int32} {jfa : Nat → Int32} {jhe : Nat → Int32} {jst : Nat → Int32} {tby : Nat → Int32} {tln : Int32} {qhe : Nat → Int32} {qbi : Nat → Int32} {qhv : Nat → Int32} {qwo : Nat → Int32} {qts : Int32} {qbb : Int32} {qbc : Int32} {qbw : Int32} {fab : Int64} {fbe : Int64} {w : Nat → Int32} {kp : Nat → Int32} {tx : Nat → Int32} {td : Int32} {rf : Nat → Int32} {fa : Int64} {fb : Int64} {lst : Int32} {lwo : Int32} (hR : Rel xik xbc xnc xfc csw cca csi cab cun csg cfa che cst isw ica isi iab iun isg ifa ihe ist jsw jca jsi jab jun jsg jfa jhe jst tby tln qbi qhv qwo fab fbe w kp tx td rf fa fb) (a1 : Int32) (a2 : Int32) : ∃ (r0 : Int32) (xbc_z : Int32) (xnc_z : Int32) (xfc_z : Int32) (qhe_z : Nat → Int32) (qbi_z : Nat → Int32) (qhv_z : Nat → Int32) (qwo_z : Nat → Int32) (qts_z : Int32) (qbb_z : Int32) (qbc_z : Int32) (qbw_z : Int32) (rf_z : Nat → Int32) (lst_z : Int32) (lwo_z : Int32), X_stow a1 a2 xbc xnc xfc cca csi cab cfa qhe qbi qhv qwo qts qbb qbc qbw = some (r0, xbc_z, xnc_z, xfc_z, qhe_z, qbi_z, qhv_z, qwo_z, qts_z, qbb_z, qbc_z, qbw_z) ∧ M_stow a1 a2 w rf lst lwo = some (r0, rf_z, lst_z, lwo_z) ∧ Rel xik xbc_z xnc_z xfc_z csw cca csi cab cun csg cfa che cst isw ica isi iab iun isg ifa ihe ist jsw jca jsi jab jun jsg jfa jhe jst tby tln qbi_z qhv_z qwo_z fab fbe w kp tx td rf_z fa fb := by
  obtain ⟨hC, hI, hT, hF, hS, hQ⟩ := hR
  obtain ⟨n, u, g, b, sv, cv, K, f, hh, hn, hu, hg, hb, hsv, hcv, rfl, rfl, rfl, rfl, rfl, rfl, w0, w1, w2, w3, w4, w5, hK, hKB, hst, hfu, hf⟩ := id hC
  have hc : GCv n K cfa := fun k j hk hj => (hK k j hk hj).1
  have hm : GMv n K w 0 := fun k j hk hj => (hK k j hk hj).2
  have hb8 := lt256 hb hn
  simp only [Nat.zero_add] at w0 w1 w2 w3 w4 w5
  unfold X_stow M_stow
  rw [chas_w a1 (by omega), mgoods_w w0 hn, xstorm_w, mstorm_w, bd1_s, bd1_s, bd1_s, bd1_s, ite_10, ite_10, ite_10, ite_10]
  by_cases h1 : 0 ≤ a1 ∧ a1 < nI n
  case neg =>
    rw [if_neg h1, if_neg h1]
    unfold X_stow_18 M_stow_15
    rw [rx_bad, rm_bad]
    exact ⟨_, _, _, _, _, _, _, _, _, _, _, _, _, _, _, rfl, rfl, hC, hI, hT, hF, st_bad hS, hQ⟩
  rw [if_pos h1, if_pos h1]
  by_cases h2 : 0 ≤ a2 ∧ a2 ≤ 200
  case neg =>
    rw [if_neg h2, if_neg h2]
    unfold X_stow_18 M_stow_15
    rw [rx_bad, rm_bad]
    exact ⟨_, _, _, _, _, _, _, _, _, _, _, _, _, _, _, rfl, rfl, hC, hI, hT, hF, st_bad hS, hQ⟩
  rw [if_pos h2, if_pos h2]
  obtain ⟨m, hmn, rfl⟩ := gno (by omega) h1
  obtain ⟨v, hv, rfl⟩ := rng (m := 200) rfl h2
  rw [w5, isIn_N (by omega) (by omega), has_N (by omega) (by omega), bd1_s, bd1_s, ite_10, ite_10]
  by_cases h3 : b.testBit m = true
  case neg =>
    rw [if_neg h3, if_neg h3, rx_no, rm_no]
    exact ⟨_, _, _, _, _, _, _, _, _, _, _, _, _, _, _, rfl, rfl, hC, hI, hT, hF, st_no hS, hQ⟩
  rw [if_pos h3, if_pos h3, show (0 : Int32) = nI 0 from rfl]
  have ht : (nI v).toInt = v := nI_toInt (by omega)
  obtain ⟨r, a, b', c, e, u1, u2, u3, u4, l1, l2, e1, e2, e3⟩ := stow_L (rf := rf) (xbc := xbc) (xnc := xnc) (xfc := xfc) (x := nI v) hc hm w0 w2 w5 hKB hn hcv hb hmn h3 (by omega) (by omega) 4 0 FU qhe qbi qhv qwo qts qbb qbc qbw lst lwo (by omega) (by unfold FU; omega) hQ
  exact ⟨_, _, _, _, _, _, _, _, _, _, _, _, _, _, _, e1, e3, hC, hI, hT, hF, hS, e2⟩
