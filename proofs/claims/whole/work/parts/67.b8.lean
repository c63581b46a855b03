/-! PURE: the bill: now, share, net, marked, tell -/
def beN (k v : Nat) : Nat := if k = 2 then v / 2 else if k = 4 then 0 else if k = 5 then v + 3 else v
theorem kbear_N : ∀ k, k < 6 → ∀ v, v < 61 → K_bears k (nI v) = some (nI (beN k v)) := by decide +kernel
theorem mbear_N : ∀ k, k < 6 → ∀ v, v < 61 → M_bearsOf (nI k) (nI v) = some (nI (beN k v)) := by decide +kernel
theorem beN_le : ∀ k, k < 6 → ∀ v, v < 61 → beN k v ≤ 63 := by decide +kernel
/-- what k adds to the loss of those of whom p holds, if they told T -/
def loF (b : Nat) (K : Nat → Nat → Nat) (T : Nat → Nat) (p : Nat → Bool) (k : Nat) : Nat := if b.testBit k = true ∨ p k = false then 0 else gdN (K k 0) (T k)
def beF (K : Nat → Nat → Nat) (T : Nat → Nat) (p : Nat → Bool) (k : Nat) : Nat := if p k = true then beN (K k 0) (T k) else 0
def alp : Nat → Bool := fun _ => true
def own (K : Nat → Nat → Nat) (x : Int32) : Nat → Bool := fun k => decide (nI (K k 1) = x)
/-- of whom x speaks -/
def who (K : Nat → Nat → Nat) (x : Int32) : Nat → Bool := if x = -1 then alp else own K x
theorem loF_le {n b : Nat} {K : Nat → Nat → Nat} {T : Nat → Nat} {p : Nat → Bool} (hKB : KB n K) (hT : ∀ k, k < n → T k ≤ 60) : sm (loF b K T p) n ≤ n * 60 := sm_le (fun k hk => by
  unfold loF
  split
  · omega
  · have := hKB k hk
    have := hT k hk
    exact gdN_le _ (by omega) _ (by omega))
theorem beF_le {n : Nat} {K : Nat → Nat → Nat} {T : Nat → Nat} {p : Nat → Bool} (hKB : KB n K) (hT : ∀ k, k < n → T k ≤ 60) : sm (beF K T p) n ≤ n * 63 := sm_le (fun k hk => by
  unfold beF
  split
  · have := hKB k hk
    have := hT k hk
    exact beN_le _ (by omega) _ (by omega)
  · omega)
theorem mloss_L {n b : Nat} {K : Nat → Nat → Nat} {w : Nat → Int32} (hm : GMv n K w 0) (h0 : w 0 = nI n) (h5 : w 5 = nI b) (hn : n ≤ 8) (hb : b < 2 ^ 31) (hKB : KB n K) (x : Int32) : ∀ d k fuel, k + d = n → d < fuel → M_lossOf_L4 fuel x (nI (sm (loF b K (fun k => K k 5) (who K x)) k)) (nI k) w = some (nI (sm (loF b K (fun k => K k 5) (who K x)) n)) := by
  intro d
  induction d with
  | zero =>
    intro k fuel hk hf
    obtain ⟨g, rfl⟩ := fuel1 hf
    have hk : k = n := by omega
    subst hk
    rw [M_lossOf_L4, M_lossOf_4, h0, if_pos (nI_le (by omega) (by omega))]
  | succ d ih =>
    intro k fuel hk hf
    obtain ⟨g, rfl⟩ := fuel1 hf
    have h := ih (k + 1) g (by omega) (by omega)
    have e1 : w (14 + k) = nI (K k 1) := by have := hm k 1 (by omega) (by omega); rwa [show 0 + (6 + 8 * 1 + k) = 14 + k by omega] at this
    have h46 : loF b K (fun k => K k 5) (who K x) k = gdN (K k 0) (K k 5) → M_lossOf_46 (M_lossOf_L4 g) x (nI k) (nI (sm (loF b K (fun k => K k 5) (who K x)) k)) w = some (nI (sm (loF b K (fun k => K k 5) (who K x)) n)) := by
      intro e
      unfold M_lossOf_46
      rw [mmade_N hm hn (by omega) hKB, bd1_s]
      simp only [bnd]
      rw [nI_1, nI_add]
      rw [sm, e] at h
      exact h
    rw [M_lossOf_L4, M_lossOf_4, h0, if_neg (nI_ge (by omega) (by omega)), h5, has_N hb (by omega), bd1_s, ite_10, show (14 : Int32) + nI k = nI (14 + k) from nI_add 14 k, inb_t (by omega) (by omega), nI_clamp (by omega), e1]
    simp only [ck, bnd, Int32.add_zero]
    rw [nI_1]
    by_cases hbk : b.testBit k = true
    · rw [if_pos hbk]
      rw [sm, show loF b K (fun k => K k 5) (who K x) k = 0 from if_pos (Or.inl hbk)] at h
      exact h
    · rw [if_neg hbk]
      by_cases hx : x = -1
      · rw [if_pos hx]
        apply h46
        unfold loF who
        rw [if_pos hx, if_neg]
        intro q
        rcases q with q | q
        · exact hbk q
        · exact Bool.noConfusion q
      · rw [if_neg hx]
        by_cases ho : nI (K k 1) = x
        · rw [if_pos ho]
          apply h46
          unfold loF who
          rw [if_neg hx, if_neg]
          intro q
          rcases q with q | q
          · exact hbk q
          · unfold own at q
            rw [decide_eq_true ho] at q
            exact Bool.noConfusion q
        · rw [if_neg ho]
          rw [sm, show loF b K (fun k => K k 5) (who K x) k = 0 from if_pos (Or.inr (by unfold who own; rw [if_neg hx]; exact decide_eq_false ho))] at h
          exact h
theorem mloss_N {n b : Nat} {K : Nat → Nat → Nat} {w : Nat → Int32} (hm : GMv n K w 0) (h0 : w 0 = nI n) (h5 : w 5 = nI b) (hn : n ≤ 8) (hb : b < 2 ^ 31) (hKB : KB n K) (x : Int32) : M_lossOf x w = some (nI (sm (loF b K (fun k => K k 5) (who K x)) n)) := by
  unfold M_lossOf
  rw [show (0 : Int32) = nI 0 from rfl]
  exact mloss_L hm h0 h5 hn hb hKB x n 0 FU (by omega) (by unfold FU; omega)
theorem mbears_L {n c : Nat} {K : Nat → Nat → Nat} {w : Nat → Int32} (hm : GMv n K w 0) (h0 : w 0 = nI n) (hn : n ≤ 8) (hKB : KB n K) (x : Int32) : ∀ d k fuel, k + d = n → d < fuel → M_bears_L23 fuel x (nI (c + sm (beF K (fun k => K k 5) (who K x)) k)) (nI k) w = some (nI (c + sm (beF K (fun k => K k 5) (who K x)) n)) := by
  intro d
  induction d with
  | zero =>
    intro k fuel hk hf
    obtain ⟨g, rfl⟩ := fuel1 hf
    have hk : k = n := by omega
    subst hk
    rw [M_bears_L23, M_bears_23, h0, if_pos (nI_le (by omega) (by omega))]
  | succ d ih =>
    intro k fuel hk hf
    obtain ⟨g, rfl⟩ := fuel1 hf
    have h := ih (k + 1) g (by omega) (by omega)
    have bb := hKB k (by omega)
    have e0 : w (6 + k) = nI (K k 0) := by have := hm k 0 (by omega) (by omega); rwa [show 0 + (6 + 8 * 0 + k) = 6 + k by omega] at this
    have e1 : w (14 + k) = nI (K k 1) := by have := hm k 1 (by omega) (by omega); rwa [show 0 + (6 + 8 * 1 + k) = 14 + k by omega] at this
    have e5 : w (46 + k) = nI (K k 5) := by have := hm k 5 (by omega) (by omega); rwa [show 0 + (6 + 8 * 5 + k) = 46 + k by omega] at this
    have h52 : beF K (fun k => K k 5) (who K x) k = beN (K k 0) (K k 5) → M_bears_52 (M_bears_L23 g) x (nI k) (nI (c + sm (beF K (fun k => K k 5) (who K x)) k)) w = some (nI (c + sm (beF K (fun k => K k 5) (who K x)) n)) := by
      intro e
      unfold M_bears_52
      rw [show (6 : Int32) + nI k = nI (6 + k) from nI_add 6 k, show (46 : Int32) + nI k = nI (46 + k) from nI_add 46 k, inb_t (by omega) (by omega), inb_t (by omega) (by omega), nI_clamp (by omega), nI_clamp (by omega), e0, e5, mbear_N _ (by omega) _ (by omega), bd1_s]
      simp only [bnd, ck]
      rw [nI_1, nI_add]
      rw [sm, e, ← Nat.add_assoc] at h
      exact h
    rw [M_bears_L23, M_bears_23, h0, if_neg (nI_ge (by omega) (by omega)), show (14 : Int32) + nI k = nI (14 + k) from nI_add 14 k, inb_t (by omega) (by omega), nI_clamp (by omega), e1]
    simp only [ck, bnd, Int32.add_zero]
    rw [nI_1]
    by_cases hx : x = -1
    · rw [if_pos hx]
      apply h52
      unfold beF who
      rw [if_pos hx, if_pos (show alp k = true from rfl)]
    · rw [if_neg hx]
      by_cases ho : nI (K k 1) = x
      · rw [if_pos ho]
        apply h52
        unfold beF who own
        rw [if_neg hx, if_pos (decide_eq_true ho)]
      · rw [if_neg ho]
        rw [sm, show beF K (fun k => K k 5) (who K x) k = 0 from if_neg (by unfold who own; rw [if_neg hx, decide_eq_false ho]; decide)] at h
        exact h
theorem mbears_N {n sv : Nat} {K : Nat → Nat → Nat} {w : Nat → Int32} (hm : GMv n K w 0) (h0 : w 0 = nI n) (h1 : w 1 = nI sv) (hn : n ≤ 8) (hKB : KB n K) (x : Int32) : M_bears x w = some (nI ((if x = -1 ∨ x = 4 then sv else 0) + sm (beF K (fun k => K k 5) (who K x)) n)) := by
  unfold M_bears M_bears_10
  simp only [bnd]
  rw [h1, show (0 : Int32) = nI 0 from rfl]
  by_cases hx : x = -1
  · rw [if_pos hx, if_pos (Or.inl hx)]
    exact mbears_L hm h0 hn hKB x n 0 FU (by omega) (by unfold FU; omega)
  · rw [if_neg hx]
    by_cases h4 : x = 4
    · rw [if_pos h4, if_pos (Or.inr h4)]
      exact mbears_L hm h0 hn hKB x n 0 FU (by omega) (by unfold FU; omega)
    · rw [if_neg h4, if_neg (by intro q; rcases q with q | q; exact hx q; exact h4 q)]
      exact mbears_L (c := 0) hm h0 hn hKB x n 0 FU (by omega) (by unfold FU; omega)
/-- one good entered in the bill -/
theorem enter_N {n b k t lo wh ow om : Nat} {K : Nat → Nat → Nat} {T : Nat → Nat} {fc : Nat → Int32} (hc : GCv n K fc) (hn : n ≤ 8) (hb : b < 2 ^ 31) (hk : k < n) (hKB : KB n K) (ht : T k = t) (h60 : t ≤ 60) (x : Int32) : B_enter x (nI k) (nI t) (nI lo) (nI wh) (nI ow) (nI om) (nI n) (nI b) fc = some (nI (lo + loF b K T alp k), nI (wh + beF K T alp k), nI (ow + beF K T (own K x) k), nI (om + loF b K T (own K x) k)) := by
  have bb := hKB k hk
  have f1 : C_fact (nI k) 1 (nI n) fc = some (nI (K k 1)) := fact_N (j := 1) hc hn hk (by omega)
  have h39 : ∀ y, loF b K T alp k = y → (nI (K k 1) = x → loF b K T (own K x) k = y) → B_enter_39 x (nI k) (nI (beN (K k 0) t)) (nI y) (nI lo) (nI wh) (nI ow) (nI om) (nI n) (nI b) fc = some (nI (lo + loF b K T alp k), nI (wh + beF K T alp k), nI (ow + beF K T (own K x) k), nI (om + loF b K T (own K x) k)) := by
    intro y hy hy2
    have ea : beF K T alp k = beN (K k 0) t := by unfold beF; rw [if_pos (show alp k = true from rfl), ht]
    unfold B_enter_39
    simp only [bnd]
    rw [f1, bd1_s, nI_add, nI_add, nI_add, nI_add, hy, ea]
    by_cases ho : nI (K k 1) = x
    · rw [if_pos ho, hy2 ho, show beF K T (own K x) k = beN (K k 0) t by unfold beF own; rw [if_pos (decide_eq_true ho), ht]]
    · rw [if_neg ho, show beF K T (own K x) k = 0 by unfold beF own; rw [if_neg (by rw [decide_eq_false ho]; decide)], show loF b K T (own K x) k = 0 by unfold loF own; rw [if_pos (Or.inr (decide_eq_false ho))]]
      rfl
  unfold B_enter
  rw [kind_N hc hn hk hKB, bd1_s, kbear_N _ (by omega) _ (by omega), bd1_s, isIn_N hb (by omega), bd1_s, ite_10, kgood_N _ (by omega) _ (by omega), bd1_s]
  by_cases hbk : b.testBit k = true
  · rw [if_pos hbk, show (0 : Int32) = nI 0 from rfl]
    apply h39
    · exact if_pos (Or.inl hbk)
    · intro _
      exact if_pos (Or.inl hbk)
  · rw [if_neg hbk]
    apply h39
    · unfold loF
      rw [if_neg, ht]
      intro q
      rcases q with q | q
      · exact hbk q
      · exact Bool.noConfusion q
    · intro ho
      unfold loF
      rw [if_neg, ht]
      intro q
      rcases q with q | q
      · exact hbk q
      · unfold own at q
        rw [decide_eq_true ho] at q
        exact Bool.noConfusion q
theorem reckon_L {n b sv c : Nat} {K : Nat → Nat → Nat} {fc : Nat → Int32} {csw : Int32} (hc : GCv n K fc) (hn : n ≤ 8) (hb : b < 2 ^ 31) (hKB : KB n K) (x : Int32) : ∀ d k fuel, k + d = n → d < fuel → B_reckon_L8 fuel x (nI k) (nI (sm (loF b K (fun k => K k 5) alp) k)) (nI (sv + sm (beF K (fun k => K k 5) alp) k)) (nI (c + sm (beF K (fun k => K k 5) (own K x)) k)) (nI (sm (loF b K (fun k => K k 5) (own K x)) k)) csw (nI n) (nI b) fc = some (nI (sm (loF b K (fun k => K k 5) alp) n), nI (sv + sm (beF K (fun k => K k 5) alp) n), nI (c + sm (beF K (fun k => K k 5) (own K x)) n), nI (sm (loF b K (fun k => K k 5) (own K x)) n)) := by
  intro d
  induction d with
  | zero =>
    intro k fuel hk hf
    obtain ⟨g, rfl⟩ := fuel1 hf
    have hk : k = n := by omega
    subst hk
    rw [B_reckon_L8, B_reckon_8, if_pos (nI_le (by omega) (by omega))]
  | succ d ih =>
    intro k fuel hk hf
    obtain ⟨g, rfl⟩ := fuel1 hf
    have h := ih (k + 1) g (by omega) (by omega)
    have bb := hKB k (by omega)
    have f5 : C_fact (nI k) 5 (nI n) fc = some (nI (K k 5)) := fact_N (j := 5) hc hn (by omega) (by omega)
    rw [B_reckon_L8, B_reckon_8, if_neg (nI_ge (by omega) (by omega)), f5, bd1_s, enter_N (T := fun k => K k 5) hc hn hb (by omega) hKB rfl (by omega)]
    simp only [bd4, bnd]
    rw [nI_1, Nat.add_assoc, Nat.add_assoc]
    exact h
theorem reckon_N {n b sv : Nat} {K : Nat → Nat → Nat} {fc : Nat → Int32} {blo bwh bow bom : Int32} (hc : GCv n K fc) (hn : n ≤ 8) (hb : b < 2 ^ 31) (hKB : KB n K) (x : Int32) : B_reckon x blo bwh bow bom (nI sv) (nI n) (nI b) fc = some (nI (sm (loF b K (fun k => K k 5) alp) n), nI (sv + sm (beF K (fun k => K k 5) alp) n), nI ((if x = 4 then sv else 0) + sm (beF K (fun k => K k 5) (own K x)) n), nI (sm (loF b K (fun k => K k 5) (own K x)) n)) := by
  unfold B_reckon B_begin B_begin_27
  rw [show (0 : Int32) = nI 0 from rfl]
  by_cases h4 : x = 4
  · rw [if_pos h4, if_pos h4]
    exact reckon_L (c := sv) hc hn hb hKB x n 0 FU (by omega) (by unfold FU; omega)
  · rw [if_neg h4, if_neg h4]
    exact reckon_L (c := 0) hc hn hb hKB x n 0 FU (by omega) (by unfold FU; omega)
theorem below_N {a : Nat} (ha : a < 2 ^ 31) : B_below (nI a) = some (lN (max a 1)) := by
  unfold B_below
  by_cases h : a = 0
  · subst h; rfl
  · rw [if_neg (show ¬ nI a = 0 from fun e => h ((nI_eq ha (by omega)).mp (show nI a = nI 0 from e))), nI_l ha, show max a 1 = a by omega]
theorem mwhole_N {a : Nat} {w : Nat → Int32} (ha : a < 2 ^ 31) (h : M_bears (-1) w = some (nI a)) : M_whole w = some (nI (max a 1)) := by
  unfold M_whole
  rw [h, bd1_s]
  by_cases h : a = 0
  · subst h; rfl
  · rw [if_neg (show ¬ nI a = 0 from fun e => h ((nI_eq ha (by omega)).mp (show nI a = nI 0 from e))), show max a 1 = a by omega]
theorem pm_sub (a b : Nat) : pmN (lN a - lN b) (max (a - b) (b - a)) := by
  by_cases h : b ≤ a
  · exact Or.inl (by rw [lN_sub h, show max (a - b) (b - a) = a - b by omega])
  · refine Or.inr ⟨?_, by omega⟩
    rw [show max (a - b) (b - a) = b - a by omega, ← lN_sub (show a ≤ b by omega), Int64.neg_sub]
theorem B_now {xik : Int32} {xbc : Int32} {xnc : Int32} {xfc : Int32} {csw : Int32} {cca : Int32} {csi : Int32} {cab : Int32} {cun : Int32} {csg : Int32} {cfa : Nat → Int32} {che : Nat → Int32} {cst : Nat → Int32} {isw : Int32} {ica : Int32} {isi : Int32} {iab : Int32} {iun : Int32} {isg : Int32} {ifa : Nat → Int32} {ihe : Nat → Int32} {ist : Nat → Int32} {jsw : Int32} {jca : Int32} {jsi : Int32} {jab : Int32} {jun : Int32} {jsg : Int32} {jfa : Nat → Int32} {jhe : Nat → Int32} {jst : Nat → Int32} {tby : Nat → Int32} {tln : Int32} {blo : Int32} {bwh : Int32} {bow : Int32} {bom : Int32} {qbi : Nat → Int32} {qhv : Nat → Int32} {qwo : Nat → Int32} {fab : Int64} {fbe : Int64} {w : Nat → Int32} {kp : Nat → Int32} {tx : Nat → Int32} {td : Int32} {rf : Nat → Int32} {fa : Int64} {fb : Int64} (hR : Rel xik xbc xnc xfc csw cca csi cab cun csg cfa che cst isw ica isi iab iun isg ifa ihe ist jsw jca jsi jab jun jsg jfa jhe jst tby tln qbi qhv qwo fab fbe w kp tx td rf fa fb) (a1 : Int32) : ∃ (r0 : Int32) (xbc_z : Int32) (xnc_z : Int32) (xfc_z : Int32) (blo_z : Int32) (bwh_z : Int32) (bow_z : Int32) (bom_z : Int32) (rf_z : Nat → Int32), X_now a1 xbc xnc xfc csw csi cab cfa blo bwh bow bom = some (r0, xbc_z, xnc_z, xfc_z, blo_z, bwh_z, bow_z, bom_z) ∧ M_now a1 w rf = some (r0, rf_z) ∧ Rel xik xbc_z xnc_z xfc_z csw cca csi cab cun csg cfa che cst isw ica isi iab iun isg ifa ihe ist jsw jca jsi jab jun jsg jfa jhe jst tby tln qbi qhv qwo fab fbe w kp tx td rf_z fa fb := by
  obtain ⟨hC, hI, hT, hF, hS, hQ⟩ := hR
  obtain ⟨n, u, g, b, sv, cv, K, f, hh, hn, hu, hg, hb, hsv, hcv, rfl, rfl, rfl, rfl, rfl, rfl, w0, w1, w2, w3, w4, w5, hK, hKB, hst, hfu, hf⟩ := id hC
  have hc : GCv n K cfa := fun k j hk hj => (hK k j hk hj).1
  have hm : GMv n K w 0 := fun k j hk hj => (hK k j hk hj).2
  have hb8 := lt256 hb hn
  simp only [Nat.zero_add] at w0 w1 w2 w3 w4 w5
  unfold X_now M_now
  rw [within_w, bd1_s, ite_10]
  by_cases h : 0 ≤ a1 ∧ a1 ≤ 3
  · obtain ⟨j, hj, rfl⟩ := rng (m := 3) rfl h
    rw [if_pos h, reckon_N hc hn (by omega) hKB, mloss_N hm w0 w5 hn (by omega) hKB, mbears_N hm w0 w1 hn hKB, w5, heavy_N hm w0 hn (by omega), worth_N hm w0 hn (by omega), bd1_s, bd1_s, bd1_s, bd1_s]
    unfold X_now_42
    rw [show (3 : Int32) = nI 3 from rfl, show (4 : Int32) = nI 4 from rfl, total_N hc hn (by omega) (by omega), total_N hc hn (by omega) (by omega), bd1_s, bd1_s]
    rcases (show j = 0 ∨ j = 1 ∨ j = 2 ∨ j = 3 by omega) with rfl | rfl | rfl | rfl
    · exact ⟨_, _, _, _, _, _, _, _, _, rfl, rfl, hC, hI, hT, hF, hS, hQ⟩
    · exact ⟨_, _, _, _, _, _, _, _, _, rfl, rfl, hC, hI, hT, hF, hS, hQ⟩
    · exact ⟨_, _, _, _, _, _, _, _, _, rfl, rfl, hC, hI, hT, hF, hS, hQ⟩
    · exact ⟨_, _, _, _, _, _, _, _, _, rfl, rfl, hC, hI, hT, hF, hS, hQ⟩
  · have h0 : ¬ a1 = 0 := fun e => h (by rw [e]; decide)
    have h1 : ¬ a1 = 1 := fun e => h (by rw [e]; decide)
    have h2 : ¬ a1 = 2 := fun e => h (by rw [e]; decide)
    have h3 : ¬ a1 = 3 := fun e => h (by rw [e]; decide)
    rw [if_neg h, if_neg h0, if_neg h1, if_neg h2, if_neg h3, rx_bad, rm_bad]
    exact ⟨_, _, _, _, _, _, _, _, _, rfl, rfl, hC, hI, hT, hF, st_bad hS, hQ⟩
theorem not_m1 {j : Nat} (h : j < 2 ^ 31) (K : Nat → Nat → Nat) : who K (nI j) = own K (nI j) := if_neg (nI_m1 h)
theorem B_share {xik : Int32} {xbc : Int32} {xnc : Int32} {xfc : Int32} {csw : Int32} {cca : Int32} {csi : Int32} {cab : Int32} {cun : Int32} {csg : Int32} {cfa : Nat → Int32} {che : Nat → Int32} {cst : Nat → Int32} {isw : Int32} {ica : Int32} {isi : Int32} {iab : Int32} {iun : Int32} {isg : Int32} {ifa : Nat → Int32} {ihe : Nat → Int32} {ist : Nat → Int32} {jsw : Int32} {jca : Int32} {jsi : Int32} {jab : Int32} {jun : Int32} {jsg : Int32} {jfa : Nat → Int32} {jhe : Nat → Int32} {jst : Nat → Int32} {tby : Nat → Int32} {tln : Int32} {blo : Int32} {bwh : Int32} {bow : Int32} {bom : Int32} {qbi : Nat → Int32} {qhv : Nat → Int32} {qwo : Nat → Int32} {fab : Int64} {fbe : Int64} {w : Nat → Int32} {kp : Nat → Int32} {tx : Nat → Int32} {td : Int32} {rf : Nat → Int32} {fa : Int64} {fb : Int64} (hR : Rel xik xbc xnc xfc csw cca csi cab cun csg cfa che cst isw ica isi iab iun isg ifa ihe ist jsw jca jsi jab jun jsg jfa jhe jst tby tln qbi qhv qwo fab fbe w kp tx td rf fa fb) (a1 : Int32) : ∃ (r0 : Int32) (xbc_z : Int32) (xnc_z : Int32) (xfc_z : Int32) (blo_z : Int32) (bwh_z : Int32) (bow_z : Int32) (bom_z : Int32) (fab_z : Int64) (fbe_z : Int64) (rf_z : Nat → Int32) (fa_z : Int64) (fb_z : Int64), X_share a1 xbc xnc xfc csw csi cab cfa blo bwh bow bom fab fbe = some (r0, xbc_z, xnc_z, xfc_z, blo_z, bwh_z, bow_z, bom_z, fab_z, fbe_z) ∧ M_share a1 w rf fa fb = some (r0, rf_z, fa_z, fb_z) ∧ Rel xik xbc_z xnc_z xfc_z csw cca csi cab cun csg cfa che cst isw ica isi iab iun isg ifa ihe ist jsw jca jsi jab jun jsg jfa jhe jst tby tln qbi qhv qwo fab_z fbe_z w kp tx td rf_z fa_z fb_z := by
  obtain ⟨hC, hI, hT, hF, hS, hQ⟩ := hR
  obtain ⟨n, u, g, b, sv, cv, K, f, hh, hn, hu, hg, hb, hsv, hcv, rfl, rfl, rfl, rfl, rfl, rfl, w0, w1, w2, w3, w4, w5, hK, hKB, hst, hfu, hf⟩ := id hC
  have hc : GCv n K cfa := fun k j hk hj => (hK k j hk hj).1
  have hm : GMv n K w 0 := fun k j hk hj => (hK k j hk hj).2
  have hb8 := lt256 hb hn
  simp only [Nat.zero_add] at w0 w1 w2 w3 w4 w5
  have hT5 : ∀ k, k < n → K k 5 ≤ 60 := fun k hk => (hKB k hk).2.2.2.2.2.2
  unfold X_share M_share
  rw [within_w, show M_in a1.toInt64 0 4 = _ from in_w a1 0 4, bd1_s, bd1_s, ite_10, ite_10]
  by_cases h : 0 ≤ a1 ∧ a1 ≤ 4
  · obtain ⟨j, hj, rfl⟩ := rng (m := 4) rfl h
    have eb : M_bears (nI j) w = some (nI ((if nI j = 4 then sv else 0) + sm (beF K (fun k => K k 5) (own K (nI j))) n)) := by
      rw [mbears_N hm w0 w1 hn hKB, not_m1 (by omega)]
      have : (nI j = -1 ∨ nI j = 4) ↔ nI j = 4 := ⟨fun q => q.resolve_left (nI_m1 (by omega)), Or.inr⟩
      simp only [this]
    have b1 := beF_le (p := alp) hKB hT5
    have b2 := beF_le (p := own K (nI j)) hKB hT5
    have b3 := loF_le (b := b) (p := alp) hKB hT5
    have ew := mwhole_N (a := sv + sm (beF K (fun k => K k 5) alp) n) (w := w) (by omega) (by rw [mbears_N hm w0 w1 hn hKB, if_pos (Or.inl rfl)]; rfl)
    have b4 : (if nI j = 4 then sv else 0) ≤ sv := by split <;> omega
    rw [if_pos h, if_pos h, reckon_N hc hn (by omega) hKB, mloss_N hm w0 w5 hn (by omega) hKB, eb, ew]
    simp only [bd4]
    rw [bd1_s, bd1_s, bd1_s, below_N (by omega)]
    unfold B_shareAbove
    rw [bd1_s, bd1_s, show who K (-1) = alp from if_pos rfl, nI_l (by omega), nI_l (by omega), nI_l (by omega), lN_mul]
    have b5 : (if nI j = 4 then sv else 0) + sm (beF K (fun k => K k 5) (own K (nI j))) n ≤ 700 := by omega
    generalize (if nI j = 4 then sv else 0) + sm (beF K (fun k => K k 5) (own K (nI j))) n = B at *
    generalize sm (loF b K (fun k => K k 5) alp) n = A at *
    have hAB : A * B ≤ 500 * 700 := Nat.mul_le_mul (by omega) (by omega)
    obtain ⟨p, q, e1, e2⟩ := frac_N (x := lN (A * B)) (p := A * B) (d := max (sv + sm (beF K (fun k => K k 5) alp) n) 1) (Or.inl rfl) (by omega) (by omega) (by omega) fab fbe fa fb
    rw [e1, e2]
    exact ⟨_, _, _, _, _, _, _, _, _, _, _, _, _, rfl, rfl, hC, hI, hT, ⟨rfl, rfl⟩, hS, hQ⟩
  · rw [if_neg h, if_neg h, rx_bad, rm_bad]
    exact ⟨_, _, _, _, _, _, _, _, _, _, _, _, _, rfl, rfl, hC, hI, hT, hF, st_bad hS, hQ⟩
theorem cnet_N {A W B C : Nat} (hA : A < 2 ^ 31) (hW : W < 2 ^ 31) (hB : B < 2 ^ 31) (hC : C < 2 ^ 31) : B_netAbove (nI A) (nI W) (nI B) (nI C) = some (lN (A * B) - lN (C * max W 1)) := by
  unfold B_netAbove B_shareAbove
  rw [below_N hW, bd1_s, bd1_s, nI_l hA, nI_l hB, nI_l hC, lN_mul, lN_mul]
theorem mnet_N {n b sv j : Nat} {K : Nat → Nat → Nat} {w : Nat → Int32} (hm : GMv n K w 0) (h0 : w 0 = nI n) (h1 : w 1 = nI sv) (h5 : w 5 = nI b) (hn : n ≤ 8) (hb : b < 2 ^ 31) (hsv : sv ≤ 99) (hKB : KB n K) (hj : j ≤ 3) : M_netOf (nI j) w = some (lN (sm (loF b K (fun k => K k 5) alp) n * sm (beF K (fun k => K k 5) (own K (nI j))) n) - lN (sm (loF b K (fun k => K k 5) (own K (nI j))) n * max (sv + sm (beF K (fun k => K k 5) alp) n) 1)) ∧ M_whole w = some (nI (max (sv + sm (beF K (fun k => K k 5) alp) n) 1)) := by
  have hT5 : ∀ k, k < n → K k 5 ≤ 60 := fun k hk => (hKB k hk).2.2.2.2.2.2
  have b1 := beF_le (p := alp) hKB hT5
  have b2 := beF_le (p := own K (nI j)) hKB hT5
  have b3 := loF_le (b := b) (p := alp) hKB hT5
  have b4 := loF_le (b := b) (p := own K (nI j)) hKB hT5
  have ew := mwhole_N (a := sv + sm (beF K (fun k => K k 5) alp) n) (w := w) (by omega) (by rw [mbears_N hm h0 h1 hn hKB, if_pos (Or.inl rfl)]; rfl)
  refine ⟨?_, ew⟩
  have j4 : ¬ (nI j = -1 ∨ nI j = 4) := by
    intro q
    rcases q with q | q
    · exact nI_m1 (by omega) q
    · exact absurd ((nI_eq (by omega) (by omega)).mp (show nI j = nI 4 from q)) (by omega)
  unfold M_netOf
  rw [mloss_N hm h0 h5 hn hb hKB, mbears_N hm h0 h1 hn hKB, mloss_N hm h0 h5 hn hb hKB, ew, if_neg j4, not_m1 (by omega), bd1_s, bd1_s, bd1_s, bd1_s, show who K (-1) = alp from if_pos rfl, Nat.zero_add, nI_l (by omega), nI_l (by omega), nI_l (by omega), nI_l (by omega), lN_mul, lN_mul]
theorem mul_b {a b c d : Nat} (h1 : a ≤ c) (h2 : b ≤ d) (h : c * d < 2 ^ 60) : a * b < 2 ^ 60 := Nat.lt_of_le_of_lt (Nat.mul_le_mul h1 h2) h
theorem B_net {xik : Int32} {xbc : Int32} {xnc : Int32} {xfc : Int32} {csw : Int32} {cca : Int32} {csi : Int32} {cab : Int32} {cun : Int32} {csg : Int32} {cfa : Nat → Int32} {che : Nat → Int32} {cst : Nat → Int32} {isw : Int32} {ica : Int32} {isi : Int32} {iab : Int32} {iun : Int32} {isg : Int32} {ifa : Nat → Int32} {ihe : Nat → Int32} {ist : Nat → Int32} {jsw : Int32} {jca : Int32} {jsi : Int32} {jab : Int32} {jun : Int32} {jsg : Int32} {jfa : Nat → Int32} {jhe : Nat → Int32} {jst : Nat → Int32} {tby : Nat → Int32} {tln : Int32} {blo : Int32} {bwh : Int32} {bow : Int32} {bom : Int32} {qbi : Nat → Int32} {qhv : Nat → Int32} {qwo : Nat → Int32} {fab : Int64} {fbe : Int64} {w : Nat → Int32} {kp : Nat → Int32} {tx : Nat → Int32} {td : Int32} {rf : Nat → Int32} {fa : Int64} {fb : Int64} (hR : Rel xik xbc xnc xfc csw cca csi cab cun csg cfa che cst isw ica isi iab iun isg ifa ihe ist jsw jca jsi jab jun jsg jfa jhe jst tby tln qbi qhv qwo fab fbe w kp tx td rf fa fb) (a1 : Int32) : ∃ (r0 : Int32) (xbc_z : Int32) (xnc_z : Int32) (xfc_z : Int32) (blo_z : Int32) (bwh_z : Int32) (bow_z : Int32) (bom_z : Int32) (fab_z : Int64) (fbe_z : Int64) (rf_z : Nat → Int32) (fa_z : Int64) (fb_z : Int64), X_net a1 xbc xnc xfc csw csi cab cfa blo bwh bow bom fab fbe = some (r0, xbc_z, xnc_z, xfc_z, blo_z, bwh_z, bow_z, bom_z, fab_z, fbe_z) ∧ M_net a1 w rf fa fb = some (r0, rf_z, fa_z, fb_z) ∧ Rel xik xbc_z xnc_z xfc_z csw cca csi cab cun csg cfa che cst isw ica isi iab iun isg ifa ihe ist jsw jca jsi jab jun jsg jfa jhe jst tby tln qbi qhv qwo fab_z fbe_z w kp tx td rf_z fa_z fb_z := by
  obtain ⟨hC, hI, hT, hF, hS, hQ⟩ := hR
  obtain ⟨n, u, g, b, sv, cv, K, f, hh, hn, hu, hg, hb, hsv, hcv, rfl, rfl, rfl, rfl, rfl, rfl, w0, w1, w2, w3, w4, w5, hK, hKB, hst, hfu, hf⟩ := id hC
  have hc : GCv n K cfa := fun k j hk hj => (hK k j hk hj).1
  have hm : GMv n K w 0 := fun k j hk hj => (hK k j hk hj).2
  have hb8 := lt256 hb hn
  simp only [Nat.zero_add] at w0 w1 w2 w3 w4 w5
  have hT5 : ∀ k, k < n → K k 5 ≤ 60 := fun k hk => (hKB k hk).2.2.2.2.2.2
  unfold X_net M_net
  rw [within_w, mowner_w, bd1_s, bd1_s, ite_10, ite_10]
  by_cases h : 0 ≤ a1 ∧ a1 ≤ 3
  · obtain ⟨j, hj, rfl⟩ := rng (m := 3) rfl h
    have b1 := beF_le (p := alp) hKB hT5
    have b2 := beF_le (p := own K (nI j)) hKB hT5
    have b3 := loF_le (b := b) (p := alp) hKB hT5
    have b4 := loF_le (b := b) (p := own K (nI j)) hKB hT5
    obtain ⟨en, ew⟩ := mnet_N hm w0 w1 w5 hn (by omega) hsv hKB hj
    have j4 : ¬ nI j = 4 := fun q => absurd ((nI_eq (by omega) (by omega)).mp (show nI j = nI 4 from q)) (by omega)
    rw [if_pos h, if_pos h, reckon_N hc hn (by omega) hKB, en, ew, if_neg j4, Nat.zero_add]
    simp only [bd4]
    rw [cnet_N (by omega) (by omega) (by omega) (by omega), below_N (by omega), bd1_s, bd1_s, bd1_s, bd1_s, nI_l (by omega)]
    have m1 := mul_b (show sm (loF b K (fun k => K k 5) alp) n ≤ 500 by omega) (show sm (beF K (fun k => K k 5) (own K (nI j))) n ≤ 700 by omega) (by omega)
    have m2 := mul_b (show sm (loF b K (fun k => K k 5) (own K (nI j))) n ≤ 500 by omega) (show max (sv + sm (beF K (fun k => K k 5) alp) n) 1 ≤ 700 by omega) (by omega)
    obtain ⟨p, q, e1, e2⟩ := frac_N (pm_sub (sm (loF b K (fun k => K k 5) alp) n * sm (beF K (fun k => K k 5) (own K (nI j))) n) (sm (loF b K (fun k => K k 5) (own K (nI j))) n * max (sv + sm (beF K (fun k => K k 5) alp) n) 1)) (by omega) (show 0 < max (sv + sm (beF K (fun k => K k 5) alp) n) 1 by omega) (by omega) fab fbe fa fb
    rw [e1, e2]
    exact ⟨_, _, _, _, _, _, _, _, _, _, _, _, _, rfl, rfl, hC, hI, hT, ⟨rfl, rfl⟩, hS, hQ⟩
  · rw [if_neg h, if_neg h, rx_bad, rm_bad]
    exact ⟨_, _, _, _, _, _, _, _, _, _, _, _, _, rfl, rfl, hC, hI, hT, hF, st_bad hS, hQ⟩
/-- the goods, had m told v -/
def mk5 (K : Nat → Nat → Nat) (m v k j : Nat) : Nat := if k = m ∧ j = 5 then v else K k j
def tol (K : Nat → Nat → Nat) (m v k : Nat) : Nat := if k = m then v else K k 5
theorem mk5_j {K : Nat → Nat → Nat} {m v k j : Nat} (h : j < 5) : mk5 K m v k j = K k j := if_neg (by omega)
theorem mk5_5 {K : Nat → Nat → Nat} {m v k : Nat} : mk5 K m v k 5 = tol K m v k := by
  unfold mk5 tol
  by_cases h : k = m
  · rw [if_pos ⟨h, rfl⟩, if_pos h]
  · rw [if_neg (fun q => h q.1), if_neg h]
theorem mk5_lo {b : Nat} {K : Nat → Nat → Nat} {m v : Nat} {p : Nat → Bool} : loF b (mk5 K m v) (fun k => mk5 K m v k 5) p = loF b K (tol K m v) p := by
  funext k
  unfold loF
  dsimp only
  rw [mk5_j (by omega), mk5_5]
theorem mk5_be {K : Nat → Nat → Nat} {m v : Nat} {p : Nat → Bool} : beF (mk5 K m v) (fun k => mk5 K m v k 5) p = beF K (tol K m v) p := by
  funext k
  unfold beF
  dsimp only
  rw [mk5_j (by omega), mk5_5]
theorem mk5_own {K : Nat → Nat → Nat} {m v : Nat} {x : Int32} : own (mk5 K m v) x = own K x := by
  funext k
  unfold own
  rw [mk5_j (by omega)]
theorem mk5_KB {n : Nat} {K : Nat → Nat → Nat} {m v : Nat} (h : KB n K) (hv : v ≤ 60) : KB n (mk5 K m v) := by
  intro k hk
  rw [mk5_j (by omega), mk5_j (by omega), mk5_j (by omega), mk5_j (by omega), mk5_j (by omega), mk5_5]
  obtain ⟨q0, q1, q2, q3, q4, q5, q6⟩ := h k hk
  refine ⟨q0, q1, q2, q3, q4, q5, ?_⟩
  unfold tol
  split
  · exact hv
  · exact q6
theorem mk5_GM {n : Nat} {K : Nat → Nat → Nat} {m v : Nat} {w : Nat → Int32} (h : GMv n K w 0) (hn : n ≤ 8) (hm : m < n) : GMv n (mk5 K m v) (upd w (46 + m) (nI v)) 0 := by
  intro k j hk hj
  unfold mk5
  by_cases he : k = m ∧ j = 5
  · obtain ⟨rfl, rfl⟩ := he
    rw [if_pos ⟨rfl, rfl⟩, show 0 + (6 + 8 * 5 + k) = 46 + k by omega, pk_us]
  · rw [if_neg he, pk_un (by omega)]
    exact h k j hk hj
theorem tol_le {n : Nat} {K : Nat → Nat → Nat} {m v : Nat} (h : KB n K) (hv : v ≤ 60) : ∀ k, k < n → tol K m v k ≤ 60 := by
  intro k hk
  unfold tol
  split
  · exact hv
  · exact (h k hk).2.2.2.2.2.2
theorem rmark_L {n b sv m v : Nat} {K : Nat → Nat → Nat} {fc : Nat → Int32} {csw : Int32} (hc : GCv n K fc) (hn : n ≤ 8) (hb : b < 2 ^ 31) (hKB : KB n K) (hm : m < n) (hv : v ≤ 60) (x : Int32) : ∀ d k fuel, k + d = n → d < fuel → B_reckonMarked_L18 fuel (nI m) (nI v) x (nI k) (nI (sm (loF b K (tol K m v) alp) k)) (nI (sv + sm (beF K (tol K m v) alp) k)) (nI (sm (beF K (tol K m v) (own K x)) k)) (nI (sm (loF b K (tol K m v) (own K x)) k)) csw (nI n) (nI b) fc = some (nI (sm (loF b K (tol K m v) alp) n), nI (sv + sm (beF K (tol K m v) alp) n), nI (sm (beF K (tol K m v) (own K x)) n), nI (sm (loF b K (tol K m v) (own K x)) n)) := by
  intro d
  induction d with
  | zero =>
    intro k fuel hk hf
    obtain ⟨g, rfl⟩ := fuel1 hf
    have hk : k = n := by omega
    subst hk
    rw [B_reckonMarked_L18, B_reckonMarked_18, if_pos (nI_le (by omega) (by omega))]
  | succ d ih =>
    intro k fuel hk hf
    obtain ⟨g, rfl⟩ := fuel1 hf
    have h := ih (k + 1) g (by omega) (by omega)
    have bb := hKB k (by omega)
    have f5 : C_fact (nI k) 5 (nI n) fc = some (nI (K k 5)) := fact_N (j := 5) hc hn (by omega) (by omega)
    have h50 : ∀ t, tol K m v k = t → t ≤ 60 → B_reckonMarked_50 (B_reckonMarked_L18 g) (nI m) (nI v) x (nI k) (nI t) (nI k) x (nI (sm (loF b K (tol K m v) alp) k)) (nI (sv + sm (beF K (tol K m v) alp) k)) (nI (sm (beF K (tol K m v) (own K x)) k)) (nI (sm (loF b K (tol K m v) (own K x)) k)) csw (nI n) (nI b) fc = some (nI (sm (loF b K (tol K m v) alp) n), nI (sv + sm (beF K (tol K m v) alp) n), nI (sm (beF K (tol K m v) (own K x)) n), nI (sm (loF b K (tol K m v) (own K x)) n)) := by
      intro t ht h60
      unfold B_reckonMarked_50
      rw [enter_N (T := tol K m v) hc hn hb (by omega) hKB ht h60]
      simp only [bd4, bnd]
      rw [nI_1, Nat.add_assoc]
      exact h
    rw [B_reckonMarked_L18, B_reckonMarked_18, if_neg (nI_ge (by omega) (by omega)), f5, bd1_s]
    by_cases hkm : k = m
    · rw [if_pos (by rw [hkm])]
      exact h50 v (if_pos hkm) hv
    · rw [if_neg (fun q => hkm ((nI_eq (by omega) (by omega)).mp q))]
      exact h50 (K k 5) (if_neg hkm) (by omega)
theorem rmark_N {n b sv m v : Nat} {K : Nat → Nat → Nat} {fc : Nat → Int32} {blo bwh bow bom : Int32} (hc : GCv n K fc) (hn : n ≤ 8) (hb : b < 2 ^ 31) (hKB : KB n K) (hm : m < n) (hv : v ≤ 60) : B_reckonMarked (nI m) (nI v) blo bwh bow bom (nI sv) (nI n) (nI b) fc = some (nI (sm (loF b K (tol K m v) alp) n), nI (sv + sm (beF K (tol K m v) alp) n), nI (sm (beF K (tol K m v) (own K (nI (K m 1)))) n), nI (sm (loF b K (tol K m v) (own K (nI (K m 1)))) n)) := by
  have bb := hKB m hm
  have f1 : C_fact (nI m) 1 (nI n) fc = some (nI (K m 1)) := fact_N (j := 1) hc hn hm (by omega)
  unfold B_reckonMarked B_begin B_begin_27
  rw [f1, bd1_s, if_neg (show ¬ nI (K m 1) = 4 from fun q => absurd ((nI_eq (by omega) (by omega)).mp (show nI (K m 1) = nI 4 from q)) (by omega)), show (0 : Int32) = nI 0 from rfl]
  exact rmark_L hc hn hb hKB hm hv (nI (K m 1)) n 0 FU (by omega) (by unfold FU; omega)
/-- the net and the whole, had m told v -/
def nuN (n b sv : Nat) (K : Nat → Nat → Nat) (m v : Nat) : Nat := sm (loF b K (tol K m v) alp) n * sm (beF K (tol K m v) (own K (nI (K m 1)))) n
def deN (n sv : Nat) (K : Nat → Nat → Nat) (m v : Nat) : Nat := max (sv + sm (beF K (tol K m v) alp) n) 1
def meN (n b sv : Nat) (K : Nat → Nat → Nat) (m v : Nat) : Nat := sm (loF b K (tol K m v) (own K (nI (K m 1)))) n * deN n sv K m v
theorem mark_c {n b sv m v : Nat} {K : Nat → Nat → Nat} {fc : Nat → Int32} {blo bwh bow bom : Int32} (hc : GCv n K fc) (hn : n ≤ 8) (hb : b < 2 ^ 31) (hsv : sv ≤ 99) (hKB : KB n K) (hm : m < n) (hv : v ≤ 60) : ∃ lo wh ow om, B_reckonMarked (nI m) (nI v) blo bwh bow bom (nI sv) (nI n) (nI b) fc = some (lo, wh, ow, om) ∧ B_netAbove lo wh ow om = some (lN (nuN n b sv K m v) - lN (meN n b sv K m v)) ∧ B_below wh = some (lN (deN n sv K m v)) := by
  have b1 := beF_le (p := alp) hKB (tol_le (m := m) hKB hv)
  have b2 := beF_le (p := own K (nI (K m 1))) hKB (tol_le (m := m) hKB hv)
  have b3 := loF_le (b := b) (p := alp) hKB (tol_le (m := m) hKB hv)
  have b4 := loF_le (b := b) (p := own K (nI (K m 1))) hKB (tol_le (m := m) hKB hv)
  exact ⟨_, _, _, _, rmark_N hc hn hb hKB hm hv, cnet_N (by omega) (by omega) (by omega) (by omega), below_N (by omega)⟩
theorem mark_m {n b sv m v : Nat} {K : Nat → Nat → Nat} {w : Nat → Int32} (hg : GMv n K w 0) (h0 : w 0 = nI n) (h1 : w 1 = nI sv) (h5 : w 5 = nI b) (hn : n ≤ 8) (hb : b < 2 ^ 31) (hsv : sv ≤ 99) (hKB : KB n K) (hm : m < n) (hv : v ≤ 60) : M_netOf (nI (K m 1)) (upd w (46 + m) (nI v)) = some (lN (nuN n b sv K m v) - lN (meN n b sv K m v)) ∧ M_whole (upd w (46 + m) (nI v)) = some (nI (deN n sv K m v)) := by
  have h := mnet_N (j := K m 1) (sv := sv) (b := b) (mk5_GM (v := v) hg hn hm) (by rw [pk_un (by omega)]; exact h0) (by rw [pk_un (by omega)]; exact h1) (by rw [pk_un (by omega)]; exact h5) hn hb hsv (mk5_KB hKB hv) (hKB m hm).2.1
  rw [mk5_own, mk5_lo, mk5_lo, mk5_be, mk5_be] at h
  exact h
theorem upd_back (w : Nat → Int32) (i : Nat) (v : Int32) : upd (upd w i v) i (w i) = w := by
  funext j
  unfold upd
  by_cases h : j = i
  · rw [if_pos h, h]
  · rw [if_neg h, if_neg h]
theorem upd_upd (w : Nat → Int32) (i : Nat) (v v' : Int32) : upd (upd w i v) i v' = upd w i v' := by
  funext j
  unfold upd
  by_cases h : j = i
  · rw [if_pos h, if_pos h]
  · rw [if_neg h, if_neg h, if_neg h]
theorem nm_b {n b sv m v : Nat} {K : Nat → Nat → Nat} (hn : n ≤ 8) (hsv : sv ≤ 99) (hKB : KB n K) (hv : v ≤ 60) : nuN n b sv K m v < 2 ^ 60 ∧ meN n b sv K m v < 2 ^ 60 ∧ 0 < deN n sv K m v ∧ deN n sv K m v ≤ 700 := by
  have b1 := beF_le (p := alp) hKB (tol_le (m := m) hKB hv)
  have b2 := beF_le (p := own K (nI (K m 1))) hKB (tol_le (m := m) hKB hv)
  have b3 := loF_le (b := b) (p := alp) hKB (tol_le (m := m) hKB hv)
  have b4 := loF_le (b := b) (p := own K (nI (K m 1))) hKB (tol_le (m := m) hKB hv)
  have b5 : deN n sv K m v ≤ 700 := by unfold deN; omega
  refine ⟨?_, ?_, by unfold deN; omega, b5⟩
  · exact mul_b (c := 500) (d := 700) (by omega) (by omega) (by omega)
  · exact mul_b (c := 500) (d := 700) (by omega) b5 (by omega)
theorem B_marked {xik : Int32} {xbc : Int32} {xnc : Int32} {xfc : Int32} {csw : Int32} {cca : Int32} {csi : Int32} {cab : Int32} {cun : Int32} {csg : Int32} {cfa : Nat → Int32} {che : Nat → Int32} {cst : Nat → Int32} {isw : Int32} {ica : Int32} {isi : Int32} {iab : Int32} {iun : Int32} {isg : Int32} {ifa : Nat → Int32} {ihe : Nat → Int32} {ist : Nat → Int32} {jsw : Int32} {jca : Int32} {jsi : Int32} {jab : Int32} {jun : Int32} {jsg : Int32} {jfa : Nat → Int32} {jhe : Nat → Int32} {jst : Nat → Int32} {tby : Nat → Int32} {tln : Int32} {blo : Int32} {bwh : Int32} {bow : Int32} {bom : Int32} {qbi : Nat → Int32} {qhv : Nat → Int32} {qwo : Nat → Int32} {fab : Int64} {fbe : Int64} {w : Nat → Int32} {kp : Nat → Int32} {tx : Nat → Int32} {td : Int32} {rf : Nat → Int32} {fa : Int64} {fb : Int64} (hR : Rel xik xbc xnc xfc csw cca csi cab cun csg cfa che cst isw ica isi iab iun isg ifa ihe ist jsw jca jsi jab jun jsg jfa jhe jst tby tln qbi qhv qwo fab fbe w kp tx td rf fa fb) (a1 : Int32) (a2 : Int32) : ∃ (r0 : Int32) (xbc_z : Int32) (xnc_z : Int32) (xfc_z : Int32) (blo_z : Int32) (bwh_z : Int32) (bow_z : Int32) (bom_z : Int32) (fab_z : Int64) (fbe_z : Int64) (w_z : Nat → Int32) (rf_z : Nat → Int32) (fa_z : Int64) (fb_z : Int64), X_marked a1 a2 xbc xnc xfc csw csi cab cfa blo bwh bow bom fab fbe = some (r0, xbc_z, xnc_z, xfc_z, blo_z, bwh_z, bow_z, bom_z, fab_z, fbe_z) ∧ M_marked a1 a2 w rf fa fb = some (r0, w_z, rf_z, fa_z, fb_z) ∧ Rel xik xbc_z xnc_z xfc_z csw cca csi cab cun csg cfa che cst isw ica isi iab iun isg ifa ihe ist jsw jca jsi jab jun jsg jfa jhe jst tby tln qbi qhv qwo fab_z fbe_z w_z kp tx td rf_z fa_z fb_z := by
  obtain ⟨hC, hI, hT, hF, hS, hQ⟩ := hR
  obtain ⟨n, u, g, b, sv, cv, K, f, hh, hn, hu, hg, hb, hsv, hcv, rfl, rfl, rfl, rfl, rfl, rfl, w0, w1, w2, w3, w4, w5, hK, hKB, hst, hfu, hf⟩ := id hC
  have hc : GCv n K cfa := fun k j hk hj => (hK k j hk hj).1
  have hm : GMv n K w 0 := fun k j hk hj => (hK k j hk hj).2
  have hb8 := lt256 hb hn
  simp only [Nat.zero_add] at w0 w1 w2 w3 w4 w5
  unfold X_marked M_marked
  rw [chas_w a1 (by omega), mgoods_w w0 hn, within_w, show M_in a2.toInt64 0 60 = _ from in_w a2 0 60]
  simp only [bd1, ite_10]
  by_cases h1 : 0 ≤ a1 ∧ a1 < nI n
  case neg =>
    rw [if_neg h1, if_neg h1]
    unfold X_marked_21 M_marked_20
    rw [rx_bad, rm_bad]
    exact ⟨_, _, _, _, _, _, _, _, _, _, _, _, _, _, rfl, rfl, hC, hI, hT, hF, st_bad hS, hQ⟩
  rw [if_pos h1, if_pos h1]
  by_cases h2 : 0 ≤ a2 ∧ a2 ≤ 60
  case neg =>
    rw [if_neg h2, if_neg h2]
    unfold X_marked_21 M_marked_20
    rw [rx_bad, rm_bad]
    exact ⟨_, _, _, _, _, _, _, _, _, _, _, _, _, _, rfl, rfl, hC, hI, hT, hF, st_bad hS, hQ⟩
  rw [if_pos h2, if_pos h2]
  obtain ⟨m, hmn, rfl⟩ := gno (by omega) h1
  obtain ⟨v, hv, rfl⟩ := rng (m := 60) rfl h2
  obtain ⟨lo, wh, ow, om, c1, c2, c3⟩ := mark_c (blo := blo) (bwh := bwh) (bow := bow) (bom := bom) hc hn (show b < 2 ^ 31 by omega) hsv hKB hmn hv
  obtain ⟨d1, d2⟩ := mark_m hm w0 w1 w5 hn (show b < 2 ^ 31 by omega) hsv hKB hmn hv
  obtain ⟨n1, n2, n3, n4⟩ := nm_b (b := b) (m := m) hn hsv hKB hv
  obtain ⟨p, q, e1, e2⟩ := frac_N (pm_sub (nuN n b sv K m v) (meN n b sv K m v)) (by omega) n3 (by omega) fab fbe fa fb
  have eo : upd w (46 + m) (nI v) (14 + m) = nI (K m 1) := by
    rw [pk_un (by omega)]
    have := hm m 1 hmn (by omega)
    rwa [show 0 + (6 + 8 * 1 + m) = 14 + m by omega] at this
  rw [c1]
  simp only [bd4]
  rw [c2, c3]
  simp only []
  rw [e1, show (46 : Int32) + nI m = nI (46 + m) from nI_add 46 m, show (14 : Int32) + nI m = nI (14 + m) from nI_add 14 m, inb_t (by omega) (by omega), inb_t (by omega) (by omega), nI_clamp (by omega), nI_clamp (by omega)]
  simp only [ck, bnd]
  rw [eo, d1, d2]
  simp only []
  rw [nI_l (by omega), e2]
  simp only [bd3, bd2]
  rw [upd_back]
  exact ⟨_, _, _, _, _, _, _, _, _, _, _, _, _, _, rfl, rfl, hC, hI, hT, ⟨rfl, rfl⟩, hS, hQ⟩
theorem tell98_0 (rc : Int32 → Int32 → Int32 → Int64 → Int64 → Int32 → (Nat → Int32) → (Nat → Int32) → Option (Int32 × (Nat → Int32) × (Nat → Int32))) (x1 x2 x3 : Int32) (x4 x6 : Int64) (x8 : Int32) (x9 x11 : Int64) (w rf : Nat → Int32) : M_tell_98 rc x1 x2 x3 x4 x6 x8 x9 x11 0 w rf = rc x1 x2 x3 x4 x6 (x8 + 1) w rf := rfl
theorem tell98_1 (rc : Int32 → Int32 → Int32 → Int64 → Int64 → Int32 → (Nat → Int32) → (Nat → Int32) → Option (Int32 × (Nat → Int32) × (Nat → Int32))) (x1 x2 x3 : Int32) (x4 x6 : Int64) (x8 : Int32) (x9 x11 : Int64) (w rf : Nat → Int32) : M_tell_98 rc x1 x2 x3 x4 x6 x8 x9 x11 1 w rf = rc x1 x2 x8 x9 x11 (x8 + 1) w rf := rfl
theorem tell_L {n b sv m : Nat} {K : Nat → Nat → Nat} {fc w rf : Nat → Int32} {xbc xnc xfc : Int32} (hc : GCv n K fc) (hg : GMv n K w 0) (h0 : w 0 = nI n) (h1 : w 1 = nI sv) (h5 : w 5 = nI b) (hn : n ≤ 8) (hb : b < 2 ^ 31) (hsv : sv ≤ 99) (hKB : KB n K) (hm : m < n) : ∀ d v fuel, v + d = 61 → d < fuel → ∀ (be : Nat) (x3 x5 : Int64) (mb : Int32) (u : Int32) (blo bwh bow bom : Int32), be ≤ 60 → ((v = 0 ∧ mb = -1) ∨ (v ≠ 0 ∧ mb = nI be)) → ∃ r lo wh ow om, X_tell_L28 fuel (nI m) (nI be) x3 x5 (nI v) xbc xnc xfc (nI sv) (nI n) (nI b) fc blo bwh bow bom = some (r, xbc, xnc, xfc, lo, wh, ow, om) ∧ M_tell_L34 fuel (nI m) (w (46 + m)) mb x3 x5 (nI v) (upd w (46 + m) u) rf = some (r, w, rf) := by
  have e1 : w (14 + m) = nI (K m 1) := by have := hg m 1 (by omega) (by omega); rwa [show 0 + (6 + 8 * 1 + m) = 14 + m by omega] at this
  intro d
  induction d with
  | zero =>
    intro v fuel hv hf be x3 x5 mb u blo bwh bow bom hbe hmb
    obtain ⟨g, rfl⟩ := fuel1 hf
    have hv : v = 61 := by omega
    subst hv
    have emb : mb = nI be := by
      rcases hmb with q | q
      · exact absurd q.1 (by omega)
      · exact q.2
    rw [X_tell_L28, X_tell_28, M_tell_L34, M_tell_34, if_pos (show (60 : Int32) < nI 61 by decide), if_pos (show (60 : Int32) < nI 61 by decide), show (46 : Int32) + nI m = nI (46 + m) from nI_add 46 m, inb_t (by omega) (by omega), nI_clamp (by omega)]
    simp only [ck, bnd]
    rw [upd_back, emb]
    exact ⟨_, _, _, _, _, rfl, rfl⟩
  | succ d ih =>
    intro v fuel hv hf be x3 x5 mb u blo bwh bow bom hbe hmb
    obtain ⟨g, rfl⟩ := fuel1 hf
    have h := ih (v + 1) g (by omega) (by omega)
    have hv60 : v ≤ 60 := by omega
    have hlt : ¬ (60 : Int32) < nI v := Int32.not_lt.mpr (show nI v ≤ nI 60 from nI_le hv60 (by omega))
    obtain ⟨lo, wh, ow, om, c1, c2, c3⟩ := mark_c (blo := blo) (bwh := bwh) (bow := bow) (bom := bom) hc hn hb hsv hKB hm hv60
    obtain ⟨d1, d2⟩ := mark_m hg h0 h1 h5 hn hb hsv hKB hm hv60
    obtain ⟨n1, n2, n3, n4⟩ := nm_b (b := b) (m := m) hn hsv hKB hv60
    have eo : upd w (46 + m) (nI v) (14 + m) = nI (K m 1) := by rw [pk_un (by omega), e1]
    rw [X_tell_L28, X_tell_28, M_tell_L34, M_tell_34, if_neg hlt, if_neg hlt, c1]
    simp only [bd4]
    rw [c2, bd1_s, c3, bd1_s, show (46 : Int32) + nI m = nI (46 + m) from nI_add 46 m, show (14 : Int32) + nI m = nI (14 + m) from nI_add 14 m, inb_t (by omega) (by omega), inb_t (by omega) (by omega), nI_clamp (by omega), nI_clamp (by omega)]
    simp only [ck, bnd]
    rw [upd_upd, eo, d1, bd1_s, d2, bd1_s, nI_l (by omega), nI_1]
    unfold M_tell_93
    rw [tell98_0, tell98_1, nI_1]
    generalize lN (nuN n b sv K m v) - lN (meN n b sv K m v) = N
    generalize lN (deN n sv K m v) = D
    rcases hmb with ⟨q0, q1⟩ | ⟨q0, q1⟩
    · subst q0
      rw [if_pos (show nI 0 = 0 from rfl), if_pos q1]
      exact h 0 N D (nI 0) (nI 0) lo wh ow om (by omega) (Or.inr ⟨by omega, rfl⟩)
    · rw [if_neg (show ¬ nI v = 0 from fun q => q0 ((nI_eq (by omega) (by omega)).mp (show nI v = nI 0 from q))), if_neg (show ¬ mb = -1 by rw [q1]; exact nI_m1 (by omega))]
      by_cases q : 0 ≤ lg_cmp (N * x5) (x3 * D)
      · rw [if_pos q, if_pos q]
        exact h be x3 x5 mb (nI v) lo wh ow om hbe (Or.inr ⟨by omega, q1⟩)
      · rw [if_neg q, if_neg q]
        exact h v N D (nI v) (nI v) lo wh ow om hv60 (Or.inr ⟨by omega, rfl⟩)
theorem B_tell {xik : Int32} {xbc : Int32} {xnc : Int32} {xfc : Int32} {csw : Int32} {cca : Int32} {csi : Int32} {cab : Int32} {cun : Int32} {csg : Int32} {cfa : Nat → Int32} {che : Nat → Int32} {cst : Nat → Int32} {isw : Int32} {ica : Int32} {isi : Int32} {iab : Int32} {iun : Int32} {isg : Int32} {ifa : Nat → Int32} {ihe : Nat → Int32} {ist : Nat → Int32} {jsw : Int32} {jca : Int32} {jsi : Int32} {jab : Int32} {jun : Int32} {jsg : Int32} {jfa : Nat → Int32} {jhe : Nat → Int32} {jst : Nat → Int32} {tby : Nat → Int32} {tln : Int32} {blo : Int32} {bwh : Int32} {bow : Int32} {bom : Int32} {qbi : Nat → Int32} {qhv : Nat → Int32} {qwo : Nat → Int32} {fab : Int64} {fbe : Int64} {w : Nat → Int32} {kp : Nat → Int32} {tx : Nat → Int32} {td : Int32} {rf : Nat → Int32} {fa : Int64} {fb : Int64} (hR : Rel xik xbc xnc xfc csw cca csi cab cun csg cfa che cst isw ica isi iab iun isg ifa ihe ist jsw jca jsi jab jun jsg jfa jhe jst tby tln qbi qhv qwo fab fbe w kp tx td rf fa fb) (a1 : Int32) : ∃ (r0 : Int32) (xbc_z : Int32) (xnc_z : Int32) (xfc_z : Int32) (blo_z : Int32) (bwh_z : Int32) (bow_z : Int32) (bom_z : Int32) (w_z : Nat → Int32) (rf_z : Nat → Int32), X_tell a1 xbc xnc xfc csw csi cab cfa blo bwh bow bom = some (r0, xbc_z, xnc_z, xfc_z, blo_z, bwh_z, bow_z, bom_z) ∧ M_tell a1 w rf = some (r0, w_z, rf_z) ∧ Rel xik xbc_z xnc_z xfc_z csw cca csi cab cun csg cfa che cst isw ica isi iab iun isg ifa ihe ist jsw jca jsi jab jun jsg jfa jhe jst tby tln qbi qhv qwo fab fbe w_z kp tx td rf_z fa fb := by
  obtain ⟨hC, hI, hT, hF, hS, hQ⟩ := hR
  obtain ⟨n, u, g, b, sv, cv, K, f, hh, hn, hu, hg, hb, hsv, hcv, rfl, rfl, rfl, rfl, rfl, rfl, w0, w1, w2, w3, w4, w5, hK, hKB, hst, hfu, hf⟩ := id hC
  have hc : GCv n K cfa := fun k j hk hj => (hK k j hk hj).1
  have hm : GMv n K w 0 := fun k j hk hj => (hK k j hk hj).2
  have hb8 := lt256 hb hn
  simp only [Nat.zero_add] at w0 w1 w2 w3 w4 w5
  unfold X_tell M_tell
  rw [chas_w a1 (by omega), mgoods_w w0 hn]
  simp only [bd1, ite_10]
  by_cases h1 : 0 ≤ a1 ∧ a1 < nI n
  case neg =>
    rw [if_neg h1, if_neg h1, rx_bad, rm_bad]
    exact ⟨_, _, _, _, _, _, _, _, _, _, rfl, rfl, hC, hI, hT, hF, st_bad hS, hQ⟩
  rw [if_pos h1, if_pos h1]
  obtain ⟨m, hmn, rfl⟩ := gno (by omega) h1
  rw [show (46 : Int32) + nI m = nI (46 + m) from nI_add 46 m, inb_t (by omega) (by omega), nI_clamp (by omega)]
  simp only [ck, bnd]
  obtain ⟨r, lo, wh, ow, om, e1, e2⟩ := tell_L (rf := rf) (xbc := xbc) (xnc := xnc) (xfc := xfc) hc hm w0 w1 w5 hn (show b < 2 ^ 31 by omega) hsv hKB hmn 61 0 FU (by omega) (by unfold FU; omega) 0 0 1 (-1) (w (46 + m)) blo bwh bow bom (by omega) (Or.inl ⟨rfl, rfl⟩)
  have eu : upd w (46 + m) (w (46 + m)) = w := by
    funext j
    unfold upd
    by_cases h : j = 46 + m
    · rw [if_pos h, h]
    · rw [if_neg h]
  rw [eu] at e2
  rw [show (0 : Int32) = nI 0 from rfl]
  exact ⟨_, _, _, _, _, _, _, _, _, _, e1, e2, hC, hI, hT, hF, hS, hQ⟩
