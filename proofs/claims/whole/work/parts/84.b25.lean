/-! PURE: reading: all items; read -/
theorem bd14_s {α0 α1 α2 α3 α4 α5 α6 α7 α8 α9 α10 α11 α12 α13 β : Type} {a0 : α0} {a1 : α1} {a2 : α2} {a3 : α3} {a4 : α4} {a5 : α5} {a6 : α6} {a7 : α7} {a8 : α8} {a9 : α9} {a10 : α10} {a11 : α11} {a12 : α12} {a13 : α13} {f : α0 → α1 → α2 → α3 → α4 → α5 → α6 → α7 → α8 → α9 → α10 → α11 → α12 → α13 → Option β} : bd14 (some (a0, a1, a2, a3, a4, a5, a6, a7, a8, a9, a10, a11, a12, a13)) f = f a0 a1 a2 a3 a4 a5 a6 a7 a8 a9 a10 a11 a12 a13 := rfl
theorem bd16_s {α0 α1 α2 α3 α4 α5 α6 α7 α8 α9 α10 α11 α12 α13 α14 α15 β : Type} {a0 : α0} {a1 : α1} {a2 : α2} {a3 : α3} {a4 : α4} {a5 : α5} {a6 : α6} {a7 : α7} {a8 : α8} {a9 : α9} {a10 : α10} {a11 : α11} {a12 : α12} {a13 : α13} {a14 : α14} {a15 : α15} {f : α0 → α1 → α2 → α3 → α4 → α5 → α6 → α7 → α8 → α9 → α10 → α11 → α12 → α13 → α14 → α15 → Option β} : bd16 (some (a0, a1, a2, a3, a4, a5, a6, a7, a8, a9, a10, a11, a12, a13, a14, a15)) f = f a0 a1 a2 a3 a4 a5 a6 a7 a8 a9 a10 a11 a12 a13 a14 a15 := rfl
theorem bd9_s {α0 α1 α2 α3 α4 α5 α6 α7 α8 β : Type} {a0 : α0} {a1 : α1} {a2 : α2} {a3 : α3} {a4 : α4} {a5 : α5} {a6 : α6} {a7 : α7} {a8 : α8} {f : α0 → α1 → α2 → α3 → α4 → α5 → α6 → α7 → α8 → Option β} : bd9 (some (a0, a1, a2, a3, a4, a5, a6, a7, a8)) f = f a0 a1 a2 a3 a4 a5 a6 a7 a8 := rfl
theorem m10_neg : ∀ f, f < 151 → (-10 : Int32) - nI f < 0 := by decide +kernel
theorem faultC {fuel f : Nat} (hf : f < 2 ^ 31) (x : Int32) (tby tnu : Nat → Int32) (tln a b c e tit dsw dca dsi dab dun dsg : Int32) (dfa dhe : Nat → Int32) : T_readInto_L21 (fuel + 1) x tby tnu tln a b c e tit (nI f) dsw dca dsi dab dun dsg dfa dhe = some (-10 - nI f, tnu, a, b, c, e, tit, nI f, dsw, dca, dsi, dab, dun, dsg, dfa, dhe) := by
  have z := nI_m1 hf
  rw [T_readInto_L21, T_readInto_21]
  unfold T_readInto_65
  rw [if_neg z, if_neg z]
  split <;> rfl
theorem items_L {len : Nat} {tb : Nat → Nat} {tby tx : Nat → Int32} (h : TX len tb tby tx) : ∀ d p it fc fm tat tsr ttk tnm ap sp iw dsw dca dsi dab dun dsg dfa w tnu dhe ig nu, len < p + d → p ≤ len → it ≤ p → d + 1 < fc → d < fm → CS tb len p tat tsr ttk tnm → MS tb len p ap sp iw → RS it dsw dca dsi dab dun dsg dfa w →
    ∃ r tnu' a b c e tit' tft' dsw' dca' dsi' dab' dun' dsg' dfa' dhe' w' ap' sp' iw' ig' nu', T_readInto_L21 fc (nI it) tby tnu (nI len) tat tsr ttk tnm (nI it) (-1) dsw dca dsi dab dun dsg dfa dhe = some (r, tnu', a, b, c, e, tit', tft', dsw', dca', dsi', dab', dun', dsg', dfa', dhe') ∧ M_read_L20 fm (nI it) w tx (nI len) ap sp iw ig nu = some (r, w', ap', sp', iw', ig', nu') ∧
      ((r < 0 ∧ ∀ i, i < 240 → w' i = w i) ∨ (¬ r < 0 ∧ ∃ wm, (∀ i, i < 240 → wm i = w i) ∧ w' = cpf wm 240 0 80 ∧ RD dsw' dca' dsi' dab' dun' dsg' dfa' wm)) := by
  have h150 := h.1
  intro d
  induction d with
  | zero =>
    intro p it fc fm tat tsr ttk tnm ap sp iw dsw dca dsi dab dun dsg dfa w tnu dhe ig nu hd hp
    omega
  | succ d ih =>
    intro p it fc fm tat tsr ttk tnm ap sp iw dsw dca dsi dab dun dsg dfa w tnu dhe ig nu hd hp hip hfc hfm hC hM hD
    obtain ⟨g, rfl⟩ : ∃ g, fc = g + 1 + 1 := ⟨fc - 2, by omega⟩
    obtain ⟨gm, rfl⟩ := fuel1 hfm
    have hb := nxq_le (tb := tb) hp
    have k6 := tkq_le tb len p
    have z150 : ¬ (150 : Int32) < nI it := nI_nlt (a := 150) (b := it) (by omega) (by omega)
    rw [T_readInto_L21, T_readInto_21, if_neg z150, if_pos rfl, M_read_L20, M_read_20]
    have go : ∃ r tnu' a b c e tit' tft' dsw' dca' dsi' dab' dun' dsg' dfa' dhe' w' ap' sp' iw' ig' nu', T_readInto_50 (T_readInto_L21 (g + 1)) (nI it) tby tnu (nI len) tat tsr ttk tnm (nI it) (-1) dsw dca dsi dab dun dsg dfa dhe = some (r, tnu', a, b, c, e, tit', tft', dsw', dca', dsi', dab', dun', dsg', dfa', dhe') ∧ M_read_35 (M_read_L20 gm) (nI it) w tx (nI len) ap sp iw ig nu = some (r, w', ap', sp', iw', ig', nu') ∧
      ((r < 0 ∧ ∀ i, i < 240 → w' i = w i) ∨ (¬ r < 0 ∧ ∃ wm, (∀ i, i < 240 → wm i = w i) ∧ w' = cpf wm 240 0 80 ∧ RD dsw' dca' dsi' dab' dun' dsg' dfa' wm)) := by
      obtain ⟨tnu1, a1, b1, c1, e1, tft1, dsw1, dca1, dsi1, dab1, dun1, dsg1, dfa1, dhe1, r1, w1, ap1, sp1, iw1, ig1, nu1, es, em, ew, ef⟩ := item_N h hp (by omega) hC hM hD tnu dhe ig nu
      have ef' : (r1 = 0 ∧ ∃ f, f ≤ len ∧ tft1 = nI f ∧ sp1 = nI f) ∨ (r1 = 1 ∧ tft1 = -1 ∧ ∃ q, p ≤ q ∧ q ≤ len ∧ ap1 = nI q ∧ CS tb len q a1 b1 c1 e1) := by
        rcases ef with x | ⟨x1, x2, q, x3, x4, x5, x6, x7⟩
        · exact Or.inl x
        · exact Or.inr ⟨x1, x2, q, x3, x4, x5, x6⟩
      obtain ⟨a2, b2, c2, e2, tit2, tft2, r2, ap2, sp2, iw2, ig2, es2, em2, ef2⟩ := stop_N (it := it) (w := w1) h ef' iw1 ig1 nu1
      unfold T_readInto_50 M_read_35
      rw [es, bd14_s, es2, bd6_s, em, em2, bd7_s, nI_1]
      rcases ef2 with ⟨rfl, f, hf, rfl, rfl⟩ | ⟨hr1, rfl, rfl, rfl, q, hq1, hq2, rfl, hC2⟩
      · have fl := faultC (fuel := g) (f := f) (by omega) (nI (it + 1)) tby tnu1 (nI len) a2 b2 c2 e2 tit2 dsw1 dca1 dsi1 dab1 dun1 dsg1 dfa1 dhe1
        rw [if_pos rfl]
        exact ⟨_, _, _, _, _, _, _, _, _, _, _, _, _, _, _, _, _, _, _, _, _, _, fl, rfl, Or.inl ⟨m10_neg f (by omega), ew⟩⟩
      · rw [if_neg (show ¬ (1 : Int32) = 0 by decide)]
        have hD2 : RD dsw1 dca1 dsi1 dab1 dun1 dsg1 dfa1 w1 := by
          rcases ef with x | ⟨x1, x2, q, x3, x4, x5, x6, x7⟩
          · rw [hr1] at x
            exact absurd x.1 (by decide)
          · exact x7
        obtain ⟨a3, b3, c3, d3, em3, hM3⟩ := stepM h hq2 sp2 iw2 ig2
        obtain ⟨r4, tnu4, a4, b4, c4, e4, tit4, tft4, dsw4, dca4, dsi4, dab4, dun4, dsg4, dfa4, dhe4, w4, ap4, sp4, iw4, ig4, nu4, x1, x2, x3⟩ := ih q (it + 1) (g + 1) gm a2 b2 c2 e2 a3 b3 c3 dsw1 dca1 dsi1 dab1 dun1 dsg1 dfa1 w1 tnu1 dhe1 d3 nu1 (by omega) hq2 (by omega) (by omega) (by omega) hC2 hM3 (Or.inr ⟨by omega, hD2⟩)
        simp only [bnd]
        rw [em3, bd4_s]
        refine ⟨_, _, _, _, _, _, _, _, _, _, _, _, _, _, _, _, _, _, _, _, _, _, x1, x2, ?_⟩
        rcases x3 with ⟨y1, y2⟩ | ⟨y1, wm, y2, y3, y4⟩
        · exact Or.inl ⟨y1, fun i hi => (y2 i hi).trans (ew i hi)⟩
        · exact Or.inr ⟨y1, wm, fun i hi => (y2 i hi).trans (ew i hi), y3, y4⟩
    by_cases i0 : it = 0
    · subst i0
      rw [if_pos (show nI 0 = (0 : Int32) from rfl), if_pos (show nI 0 = (0 : Int32) from rfl), ite_self]
      exact go
    · have zi : ¬ nI it = (0 : Int32) := nI_ne0 (by omega) (by omega)
      rw [if_neg zi, if_neg zi]
      by_cases s1 : tbeg tb len p < len
      · rw [if_neg (show ¬ ttk = 0 from fun x => by
          have e := hC.2.2.1
          rw [x] at e
          exact tkd_0.mp ((nI_eq (by omega) (by omega)).mp (show nI 0 = nI (tkq tb len p) from e)).symm s1), if_pos (show sp < nI len by rw [hM.2.1]; exact nI_lt s1 (by omega))]
        exact go
      · have k0 : tkq tb len p = 0 := tkd_0.mpr s1
        rw [if_pos (show ttk = 0 by rw [hC.2.2.1, k0]; rfl), if_neg (show ¬ sp < nI len by rw [hM.2.1]; exact nI_nlt (by omega) (by omega)), show M_copy 240 0 w = _ from copy_N (a := 240) (b := 0) (by omega) (by omega) (by omega) w, bd1_s]
        unfold T_readInto_65
        rw [if_pos rfl]
        rcases hD with x | ⟨hi0, hD⟩
        · exact absurd x.1 i0
        · exact ⟨_, _, _, _, _, _, _, _, _, _, _, _, _, _, _, _, _, _, _, _, _, _, rfl, rfl, Or.inr ⟨nI_pos (by omega), w, fun i hi => rfl, rfl, hD⟩⟩
/-- what was read stands as a cargo -/
theorem RD.rc {dsw dca dsi dab dun dsg : Int32} {dfa dhe dst w : Nat → Int32} (h : RD dsw dca dsi dab dun dsg dfa w) : RC dsw dca dsi dab 0 dsg dfa dhe dst w 240 := by
  obtain ⟨n, b, sv, cv, u, K, hn, hbn, hsv, hcv, hu, rfl, rfl, rfl, rfl, rfl, rfl, w0, w1, w2, w3, w4, w5, hc, hm, hKB⟩ := h
  exact ⟨n, 0, 0, b, sv, cv, K, fun _ => b, fun _ => 0, hn, by omega, by omega, hbn, hsv, hcv, rfl, rfl, rfl, rfl, rfl, rfl, w0, w1, w2, w3, w4, w5, fun k j hk hj => ⟨hc k j hk hj, hm k j hk hj⟩, hKB, fun i hi => absurd hi (by omega), rfl, fun i hi => absurd hi (by omega)⟩
theorem read_N {len : Nat} {tb : Nat → Nat} {tby tx : Nat → Int32} (h : TX len tb tby tx) (tnu w nu dfa dhe : Nat → Int32) (tat tsr ttk tnm tit tft dsw dca dsi dab dun dsg ap sp iw ig : Int32) :
    ∃ r tnu' a b c e tit' tft' dsw' dca' dsi' dab' dun' dsg' dfa' dhe' w' ap' sp' iw' ig' nu', T_readInto tby tnu (nI len) tat tsr ttk tnm tit tft dsw dca dsi dab dun dsg dfa dhe = some (r, tnu', a, b, c, e, tit', tft', dsw', dca', dsi', dab', dun', dsg', dfa', dhe') ∧ M_read w tx (nI len) ap sp iw ig nu = some (r, w', ap', sp', iw', ig', nu') ∧
      ((r < 0 ∧ ∀ i, i < 240 → w' i = w i) ∨ (¬ r < 0 ∧ ∃ wm, (∀ i, i < 240 → wm i = w i) ∧ w' = cpf wm 240 0 80 ∧ RD dsw' dca' dsi' dab' dun' dsg' dfa' wm)) := by
  have h150 := h.1
  obtain ⟨a, b, c, e, es, ec⟩ := stepC h (Nat.zero_le len) tsr ttk tnm
  obtain ⟨a1, b1, c1, d1, em, hM⟩ := stepM h (Nat.zero_le len) sp iw ig
  unfold T_readInto M_read
  rw [show M_begins 240 0 0 w = _ from begins_N (o := 240) (by omega) 0 0 w, bd1_s, show T_step tby (nI len) 0 tsr ttk tnm = _ from es, bd4_s, show M_token tx (nI len) 0 sp iw ig = _ from em, bd4_s]
  have zz : ∀ i, 240 ≤ i → i < 320 → i ≠ 241 → i ≠ 242 → upd (upd (zf w 240 80) (240 + 1) 0) (240 + 2) 0 i = 0 := by
    intro i h1 h2 h3 h4
    rw [pk_un h4, pk_un h3]
    exact if_pos ⟨h1, h2⟩
  obtain ⟨r4, tnu4, a4, b4, c4, e4, tit4, tft4, dsw4, dca4, dsi4, dab4, dun4, dsg4, dfa4, dhe4, w4, ap4, sp4, iw4, ig4, nu4, x1, x2, x3⟩ := items_L h (len + 1) 0 0 FU FU a b c e a1 b1 c1 dsw dca dsi dab dun dsg dfa (upd (upd (zf w 240 80) (240 + 1) 0) (240 + 2) 0) tnu dhe d1 nu (by omega) (by omega) (by omega) (by unfold FU; omega) (by unfold FU; omega) ec hM (Or.inl ⟨rfl, zz 240 (by omega) (by omega) (by omega) (by omega), zz 243 (by omega) (by omega) (by omega) (by omega), zz 244 (by omega) (by omega) (by omega) (by omega), zz 245 (by omega) (by omega) (by omega) (by omega)⟩)
  have low : ∀ i, i < 240 → upd (upd (zf w 240 80) (240 + 1) 0) (240 + 2) 0 i = w i := by
    intro i hi
    rw [pk_un (by omega), pk_un (by omega)]
    exact if_neg (by omega)
  refine ⟨_, _, _, _, _, _, _, _, _, _, _, _, _, _, _, _, _, _, _, _, _, _, x1, x2, ?_⟩
  rcases x3 with ⟨y1, y2⟩ | ⟨y1, wm, y2, y3, y4⟩
  · exact Or.inl ⟨y1, fun i hi => (y2 i hi).trans (low i hi)⟩
  · exact Or.inr ⟨y1, wm, fun i hi => (y2 i hi).trans (low i hi), y3, y4⟩
theorem B_read {xik : Int32} {xbc : Int32} {xnc : Int32} {xfc : Int32} {csw : Int32} {cca : Int32} {csi : Int32} {cab : Int32} {cun : Int32} {csg : Int32} {cfa : Nat → Int32} {che : Nat → Int32} {cst : Nat → Int32} {dsw : Int32} {dca : Int32} {dsi : Int32} {dab : Int32} {dun : Int32} {dsg : Int32} {dfa : Nat → Int32} {dhe : Nat → Int32} {dst : Nat → Int32} {isw : Int32} {ica : Int32} {isi : Int32} {iab : Int32} {iun : Int32} {isg : Int32} {ifa : Nat → Int32} {ihe : Nat → Int32} {ist : Nat → Int32} {jsw : Int32} {jca : Int32} {jsi : Int32} {jab : Int32} {jun : Int32} {jsg : Int32} {jfa : Nat → Int32} {jhe : Nat → Int32} {jst : Nat → Int32} {tby : Nat → Int32} {tnu : Nat → Int32} {tln : Int32} {tat : Int32} {tsr : Int32} {ttk : Int32} {tnm : Int32} {tit : Int32} {tft : Int32} {qbi : Nat → Int32} {qhv : Nat → Int32} {qwo : Nat → Int32} {fab : Int64} {fbe : Int64} {w : Nat → Int32} {kp : Nat → Int32} {tx : Nat → Int32} {td : Int32} {rf : Nat → Int32} {fa : Int64} {fb : Int64} {ap : Int32} {sp : Int32} {iw : Int32} {ig : Int32} {nu : Nat → Int32} (hR : Rel xik xbc xnc xfc csw cca csi cab cun csg cfa che cst isw ica isi iab iun isg ifa ihe ist jsw jca jsi jab jun jsg jfa jhe jst tby tln qbi qhv qwo fab fbe w kp tx td rf fa fb) : ∃ (r0 : Int32) (csw_z : Int32) (cca_z : Int32) (csi_z : Int32) (cab_z : Int32) (cun_z : Int32) (csg_z : Int32) (cfa_z : Nat → Int32) (che_z : Nat → Int32) (cst_z : Nat → Int32) (dsw_z : Int32) (dca_z : Int32) (dsi_z : Int32) (dab_z : Int32) (dun_z : Int32) (dsg_z : Int32) (dfa_z : Nat → Int32) (dhe_z : Nat → Int32) (tnu_z : Nat → Int32) (tat_z : Int32) (tsr_z : Int32) (ttk_z : Int32) (tnm_z : Int32) (tit_z : Int32) (tft_z : Int32) (w_z : Nat → Int32) (ap_z : Int32) (sp_z : Int32) (iw_z : Int32) (ig_z : Int32) (nu_z : Nat → Int32), X_read csw cca csi cab cun csg cfa che cst dsw dca dsi dab dun dsg dfa dhe dst tby tnu tln tat tsr ttk tnm tit tft = some (r0, csw_z, cca_z, csi_z, cab_z, cun_z, csg_z, cfa_z, che_z, cst_z, dsw_z, dca_z, dsi_z, dab_z, dun_z, dsg_z, dfa_z, dhe_z, tnu_z, tat_z, tsr_z, ttk_z, tnm_z, tit_z, tft_z) ∧ M_read w tx td ap sp iw ig nu = some (r0, w_z, ap_z, sp_z, iw_z, ig_z, nu_z) ∧ Rel xik xbc xnc xfc csw_z cca_z csi_z cab_z cun_z csg_z cfa_z che_z cst_z isw ica isi iab iun isg ifa ihe ist jsw jca jsi jab jun jsg jfa jhe jst tby tln qbi qhv qwo fab fbe w_z kp tx td rf fa fb := by
  obtain ⟨hC, hI, hT, hF, hS, hQ⟩ := hR
  obtain ⟨len, hl, rfl, rfl, ht⟩ := id hT
  have hX : ∃ tb : Nat → Nat, TX len tb tby tx := by
    refine ⟨fun j => if hj : j < len then (ht j hj).choose else 0, hl, fun j hj => ?_⟩
    have := (ht j hj).choose_spec
    dsimp only
    rw [dif_pos hj]
    exact this
  obtain ⟨tb, hX⟩ := hX
  obtain ⟨r, tnu', a, b, c, e, tit', tft', dsw', dca', dsi', dab', dun', dsg', dfa', dhe', w', ap', sp', iw', ig', nu', x1, x2, x3⟩ := read_N hX tnu w nu dfa dhe tat tsr ttk tnm tit tft dsw dca dsi dab dun dsg ap sp iw ig
  unfold X_read
  rw [x1, bd16_s]
  rcases x3 with ⟨y1, y2⟩ | ⟨y1, wm, y2, y3, y4⟩
  · rw [if_pos y1]
    exact ⟨_, _, _, _, _, _, _, _, _, _, _, _, _, _, _, _, _, _, _, _, _, _, _, _, _, _, _, _, _, _, _, rfl, x2, hC.cong (fun i hi => y2 _ (by omega)), hI.cong (fun i _ hi => y2 _ hi), hT, hF, hS, hQ⟩
  · rw [if_neg y1, become_N, bd9_s]
    refine ⟨_, _, _, _, _, _, _, _, _, _, _, _, _, _, _, _, _, _, _, _, _, _, _, _, _, _, _, _, _, _, _, rfl, x2, ?_, hI.cong (fun i h1 h2 => ?_), hT, hF, hS, hQ⟩
    · rw [y3]
      refine RC.become (RC.moved (o := 240) (w := wm) y4.rc (fun i hi => ?_))
      unfold cpf
      rw [if_pos (by omega), show 0 + i - 0 = i by omega]
    · rw [y3]
      unfold cpf
      rw [if_neg (by omega)]
      exact y2 _ h2
