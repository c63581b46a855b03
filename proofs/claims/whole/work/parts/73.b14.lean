/-! PURE: least, and its order -/
/-- the first from k on of whom p holds -/
def fu (p : Nat → Bool) : Nat → Nat → Int32
  | _, 0 => -1
  | k, d + 1 => if p k = true then nI k else fu p (k + 1) d
theorem fu_no {p : Nat → Bool} : ∀ d k, (∀ j, k ≤ j → p j = false) → fu p k d = -1
  | 0, _, _ => rfl
  | d + 1, k, h => by
    rw [fu, if_neg (by rw [h k (by omega)]; decide), fu_no d (k + 1) (fun j hj => h j (by omega))]
theorem fu_tail {p : Nat → Bool} {n : Nat} (h : ∀ j, n ≤ j → p j = false) (e : Nat) : ∀ d k, k + d = n → fu p k (d + e) = fu p k d
  | 0, k, hk => by
    rw [Nat.zero_add, fu_no e k (fun j hj => h j (by omega))]
    rfl
  | d + 1, k, hk => by
    rw [show d + 1 + e = (d + e) + 1 by omega, fu, fu, fu_tail h e d (k + 1) (by omega)]
theorem fu_some {p : Nat → Bool} : ∀ d k, fu p k d = -1 ∨ ∃ i, k ≤ i ∧ i < k + d ∧ p i = true ∧ fu p k d = nI i
  | 0, _ => Or.inl rfl
  | d + 1, k => by
    rw [fu]
    by_cases h : p k = true
    · rw [if_pos h]; exact Or.inr ⟨k, by omega, by omega, h, rfl⟩
    · rw [if_neg h]
      rcases fu_some (p := p) d (k + 1) with q | ⟨i, q1, q2, q3, q4⟩
      · exact Or.inl q
      · exact Or.inr ⟨i, by omega, by omega, q3, q4⟩
theorem fu_cong {p q : Nat → Bool} : ∀ d k, (∀ j, k ≤ j → j < k + d → p j = q j) → fu p k d = fu q k d
  | 0, _, _ => rfl
  | d + 1, k, h => by rw [fu, fu, h k (by omega) (by omega), fu_cong d (k + 1) (fun j h1 h2 => h j (by omega) (by omega))]
/-- k may be next -/
def nx (n T S : Nat) (K : Nat → Nat → Nat) (k : Nat) : Bool := T.testBit k && topB n S k (fun k => K k 2) (fun i => decide (k < i))
theorem ftop_L {n T S : Nat} {K : Nat → Nat → Nat} {fc : Nat → Int32} (hc : GCv n K fc) (hKB : KB n K) (hn : n ≤ 8) (hT : T < 2 ^ 31) (hS : S < 2 ^ 31) : ∀ d k fuel, k + d = n → d < fuel → C_firstTop_L2 fuel (nI T) (nI S) (nI k) (nI n) fc = some (fu (nx n T S K) k d) := by
  intro d
  induction d with
  | zero =>
    intro k fuel hk hf
    obtain ⟨g, rfl⟩ := fuel1 hf
    have hk : k = n := by omega
    subst hk
    rw [C_firstTop_L2, C_firstTop_2, if_pos (nI_le (by omega) (by omega))]
    rfl
  | succ d ih =>
    intro k fuel hk hf
    obtain ⟨g, rfl⟩ := fuel1 hf
    have h := ih (k + 1) g (by omega) (by omega)
    rw [C_firstTop_L2, C_firstTop_2, if_neg (nI_ge (by omega) (by omega)), isIn_N hT (by omega), bd1_s, ite_10, ctop_N hc hn hS hKB (by omega), bd1_s]
    simp only [bnd, bI_ite]
    rw [nI_1, fu, h]
    unfold nx
    cases e1 : T.testBit k
    · rw [if_neg (by decide), if_neg (by simp)]
    · rw [if_pos rfl, Bool.true_and]
      cases e2 : topB n S k (fun k => K k 2) (fun i => decide (k < i))
      · rw [if_neg (by decide), if_neg (by decide)]
      · rw [if_pos rfl, if_pos rfl]
theorem ftop_N {n T S : Nat} {K : Nat → Nat → Nat} {fc : Nat → Int32} (hc : GCv n K fc) (hKB : KB n K) (hn : n ≤ 8) (hT : T < 2 ^ 31) (hS : S < 2 ^ 31) : C_firstTop (nI T) (nI S) (nI n) fc = some (fu (nx n T S K) 0 n) := by
  unfold C_firstTop
  rw [show (0 : Int32) = nI 0 from rfl]
  exact ftop_L hc hKB hn hT hS n 0 FU (by omega) (by unfold FU; omega)
theorem pick_L {n T S v i : Nat} {K : Nat → Nat → Nat} {w rf : Nat → Int32} {lst lwo : Int32} {rc : Int32 → Int32 → Int32 → Int32 → Int32 → (Nat → Int32) → (Nat → Int32) → Int32 → Int32 → Option (Int32 × (Nat → Int32) × Int32 × Int32)} (hm : GMv n K w 0) (h0 : w 0 = nI n) (hKB : KB n K) (hn : n ≤ 8) (hT : T < 2 ^ n) (hS : S < 2 ^ n) : ∀ k fuel, k ≤ 8 → k < fuel → M_least_L111 rc fuel (nI v) (nI S) (nI T) (fu (nx n T S K) k (8 - k)) (nI i) (nI k - 1) w rf lst lwo = rc (nI v) (nI S &&& (((1 : Int32) <<< (fu (nx n T S K) 0 8 &&& 31)) ^^^ (-1))) (nI T &&& (((1 : Int32) <<< (fu (nx n T S K) 0 8 &&& 31)) ^^^ (-1))) (fu (nx n T S K) 0 8) (nI (i + 1)) w rf lst lwo := by
  have hT8 := lt256 hT hn
  have hS8 := lt256 hS hn
  intro k
  induction k with
  | zero =>
    intro fuel hk hf
    obtain ⟨g, rfl⟩ := fuel1 hf
    rw [M_least_L111, M_least_111, if_pos (show nI 0 - 1 < 0 by decide)]
    simp only [bnd]
    rw [nI_1]
  | succ k ih =>
    intro fuel hk hf
    obtain ⟨g, rfl⟩ := fuel1 hf
    have h := ih g (by omega) (by omega)
    rw [show 8 - k = (8 - (k + 1)) + 1 by omega, fu] at h
    rw [← h, M_least_L111, M_least_111, show nI (k + 1) - 1 = nI k from pk_sub (a := k + 1) (b := 1) (by omega), if_neg (nI_pos (by omega)), has_N (by omega) (by omega), bd1_s, ite_10]
    simp only [bnd]
    rw [show nI k + -1 = nI k - 1 from (Int32.sub_eq_add_neg ..).symm]
    unfold nx
    cases e1 : T.testBit k
    · rw [if_neg (by decide), if_neg (by simp)]
    · rw [if_pos rfl]
      have hkn := bit_lt hT e1
      rw [show M_isTop 0 (nI S) (nI k) (-1) 0 w = _ from mtop_0 (o := 0) (by omega) h0 hn (by omega) hkn hKB hm, bd1_s]
      simp only [bI_ite]
      rw [Bool.true_and]
      cases e2 : topB n S k (fun k => K k 2) (fun i => decide (k < i))
      · rw [if_neg (by decide), if_neg (by decide)]
      · rw [if_pos rfl, if_pos rfl]
theorem neg1_N : ∀ a, a < 256 → nI a &&& (((1 : Int32) <<< ((-1 : Int32) &&& 31)) ^^^ (-1)) = nI a := by decide +kernel
theorem step98 {n T S v i : Nat} {K : Nat → Nat → Nat} {w rf : Nat → Int32} {x5 lst lwo : Int32} (hm : GMv n K w 0) (h0 : w 0 = nI n) (hKB : KB n K) (hn : n ≤ 8) (hT : T < 2 ^ n) (hS : S < 2 ^ n) (hiv : i ≤ v) (hv : v < 2 ^ 31) (fuel : Nat) : M_least_L98 (fuel + 1) (nI v) (nI S) (nI T) x5 (nI i) w rf lst lwo = M_least_L98 fuel (nI v) (nI S &&& (((1 : Int32) <<< (fu (nx n T S K) 0 8 &&& 31)) ^^^ (-1))) (nI T &&& (((1 : Int32) <<< (fu (nx n T S K) 0 8 &&& 31)) ^^^ (-1))) (fu (nx n T S K) 0 8) (nI (i + 1)) w rf lst lwo := by
  have h := pick_L (v := v) (i := i) (rf := rf) (lst := lst) (lwo := lwo) (rc := M_least_L98 fuel) hm h0 hKB hn hT hS 8 FU (by omega) (by unfold FU; omega)
  rw [← h, M_least_L98, M_least_98, if_neg (Int32.not_lt.mpr (nI_le hiv hv))]
  rfl
theorem done98 {n T S v i : Nat} {w rf : Nat → Int32} {X Y x5 lst lwo : Int32} (hiv : v < i) (hi : i < 2 ^ 31) (fuel : Nat) : M_least_L98 (fuel + 1) (nI v) X Y x5 (nI i) w rf lst lwo = some (x5, rf, lst, lwo) := by
  rw [M_least_L98, M_least_98, if_pos ((nI_ltI (by omega) hi).mpr hiv)]
theorem none98 {n T S v : Nat} {K : Nat → Nat → Nat} {w rf : Nat → Int32} {lst lwo : Int32} (hm : GMv n K w 0) (h0 : w 0 = nI n) (hKB : KB n K) (hn : n ≤ 8) (hT : T < 2 ^ n) (hS : S < 2 ^ n) (hv : v < 2 ^ 30) (hno : fu (nx n T S K) 0 8 = -1) : ∀ d i fuel, i + d = v + 1 → d < fuel → M_least_L98 fuel (nI v) (nI S) (nI T) (-1) (nI i) w rf lst lwo = some (-1, rf, lst, lwo) := by
  intro d
  induction d with
  | zero =>
    intro i fuel hi hf
    obtain ⟨g, rfl⟩ := fuel1 hf
    exact done98 (n := n) (T := T) (S := S) (by omega) (by omega) g
  | succ d ih =>
    intro i fuel hi hf
    obtain ⟨g, rfl⟩ := fuel1 hf
    rw [step98 hm h0 hKB hn hT hS (by omega) (by omega) g, hno, neg1_N _ (lt256 hT hn), neg1_N _ (lt256 hS hn)]
    exact ih (i + 1) g (by omega) (by omega)
theorem order_L {n T0 v : Nat} {K : Nat → Nat → Nat} {fc w rf : Nat → Int32} {cab lst lwo : Int32} (hc : GCv n K fc) (hm : GMv n K w 0) (h0 : w 0 = nI n) (hKB : KB n K) (hn : n ≤ 8) (hT0 : T0 < 2 ^ n) (hv : v ≤ 8) : ∀ d i fuel mf S T x5, i + d = v → d < fuel → d + 2 < mf → S < 2 ^ n → T < 2 ^ n → (∀ k, S.testBit k = true → T.testBit k = T0.testBit k) → ∃ r, X_inOrder_L33 fuel (nI T0) (nI v) (nI S) (fu (nx n T0 S K) 0 n) (nI i) (nI n) cab fc = some r ∧ M_least_L98 mf (nI v) (nI S) (nI T) x5 (nI i) w rf lst lwo = some (r, rf, lst, lwo) := by
  have same : ∀ S T, (∀ k, S.testBit k = true → T.testBit k = T0.testBit k) → T < 2 ^ n → fu (nx n T S K) 0 8 = fu (nx n T0 S K) 0 n := by
    intro S T hst hT
    have e1 : fu (nx n T S K) 0 8 = fu (nx n T S K) 0 n := by
      have := fu_tail (p := nx n T S K) (n := n) (fun j hj => by
        unfold nx
        cases e : T.testBit j
        · rfl
        · exact absurd (bit_lt hT e) (by omega)) (8 - n) n 0 (by omega)
      rw [show n + (8 - n) = 8 by omega] at this
      exact this
    rw [e1]
    apply fu_cong
    intro j _ _
    unfold nx topB
    cases e : S.testBit j
    · simp
    · rw [hst j e]
  intro d
  induction d with
  | zero =>
    intro i fuel mf S T x5 hi hf hmf hS hT hst
    obtain ⟨g, rfl⟩ := fuel1 hf
    obtain ⟨g2, rfl⟩ : ∃ g2, mf = g2 + 1 + 1 := ⟨mf - 2, by omega⟩
    rw [X_inOrder_L33, X_inOrder_33, if_pos (nI_le (by omega) (by omega)), step98 hm h0 hKB hn hT hS (by omega) (by omega), done98 (n := n) (T := T) (S := S) (by omega) (by omega), same S T hst hT]
    exact ⟨_, rfl, rfl⟩
  | succ d ih =>
    intro i fuel mf S T x5 hi hf hmf hS hT hst
    obtain ⟨g, rfl⟩ := fuel1 hf
    obtain ⟨g2, rfl⟩ : ∃ g2, mf = g2 + 1 := ⟨mf - 1, by omega⟩
    have hS8 := lt256 hS hn
    have hT8 := lt256 hT hn
    have hT08 := lt256 hT0 hn
    rw [X_inOrder_L33, X_inOrder_33, if_neg (nI_ge (by omega) (by omega)), step98 hm h0 hKB hn hT hS (by omega) (by omega), same S T hst hT]
    rcases fu_some (p := nx n T0 S K) n 0 with q | ⟨k, -, q2, q3, q4⟩
    · rw [q, if_pos rfl, neg1_N _ hT8, neg1_N _ hS8]
      exact ⟨_, rfl, none98 hm h0 hKB hn hT hS (by omega) (by rw [same S T hst hT, q]) (d + 1) (i + 1) g2 (by omega) (by omega)⟩
    · rw [q4, if_neg (nI_m1 (by omega))]
      simp only [bnd]
      rw [shl_N (by omega), andn_N, andn_N, nI_1]
      have hS' : sdf S (2 ^ k) < 2 ^ n := sdf_lt hS
      have hS8' := lt256 hS' hn
      rw [ftop_N hc hKB hn (by omega) (by omega), bd1_s]
      refine ih (i + 1) g g2 (sdf S (2 ^ k)) (sdf T (2 ^ k)) (nI k) (by omega) (by omega) (by omega) hS' (sdf_lt hT) (fun j hj => ?_)
      rw [sdf_bit] at hj ⊢
      cases e1 : S.testBit j
      · rw [e1] at hj; exact Bool.noConfusion hj
      · rw [hst j e1]
        rw [e1, Bool.true_and] at hj
        rw [hj, Bool.and_true]
theorem B_least {xik : Int32} {xbc : Int32} {xnc : Int32} {xfc : Int32} {csw : Int32} {cca : Int32} {csi : Int32} {cab : Int32} {cun : Int32} {csg : Int32} {cfa : Nat → Int32} {che : Nat → Int32} {cst : Nat → Int32} {isw : Int32} {ica : Int32} {isi : Int32} {iab : Int32} {iun : Int32} {isg : Int32} {ifa : Nat → Int32} {ihe : Nat → Int32} {ist : Nat → Int32} {jsw : Int32} {jca : Int32} {jsi : Int32} {jab : Int32} {jun : Int32} {jsg : Int32} {jfa : Nat → Int32} {jhe : Nat → Int32} {jst : Nat → Int32} {tby : Nat → Int32} {tln : Int32} {qhe : Nat → Int32} {qbi : Nat → Int32} {qhv : Nat → Int32} {qwo : Nat → Int32} {qts : Int32} {qbb : Int32} {qbc : Int32} {qbw : Int32} {fab : Int64} {fbe : Int64} {w : Nat → Int32} {kp : Nat → Int32} {tx : Nat → Int32} {td : Int32} {rf : Nat → Int32} {fa : Int64} {fb : Int64} {lst : Int32} {lwo : Int32} (hR : Rel xik xbc xnc xfc csw cca csi cab cun csg cfa che cst isw ica isi iab iun isg ifa ihe ist jsw jca jsi jab jun jsg jfa jhe jst tby tln qbi qhv qwo fab fbe w kp tx td rf fa fb) (a1 : Int32) (a2 : Int32) : ∃ (r0 : Int32) (xbc_z : Int32) (xnc_z : Int32) (xfc_z : Int32) (qhe_z : Nat → Int32) (qbi_z : Nat → Int32) (qhv_z : Nat → Int32) (qwo_z : Nat → Int32) (qts_z : Int32) (qbb_z : Int32) (qbc_z : Int32) (qbw_z : Int32) (rf_z : Nat → Int32) (lst_z : Int32) (lwo_z : Int32), X_least a1 a2 xbc xnc xfc cca csi cab cfa qhe qbi qhv qwo qts qbb qbc qbw = some (r0, xbc_z, xnc_z, xfc_z, qhe_z, qbi_z, qhv_z, qwo_z, qts_z, qbb_z, qbc_z, qbw_z) ∧ M_least a1 a2 w rf lst lwo = some (r0, rf_z, lst_z, lwo_z) ∧ Rel xik xbc_z xnc_z xfc_z csw cca csi cab cun csg cfa che cst isw ica isi iab iun isg ifa ihe ist jsw jca jsi jab jun jsg jfa jhe jst tby tln qbi_z qhv_z qwo_z fab fbe w kp tx td rf_z fa fb := by
  obtain ⟨hC, hI, hT, hF, hS, hQ⟩ := hR
  obtain ⟨n, u, g, b, sv, cv, K, f, hh, hn, hu, hg, hb, hsv, hcv, rfl, rfl, rfl, rfl, rfl, rfl, w0, w1, w2, w3, w4, w5, hK, hKB, hst, hfu, hf⟩ := id hC
  have hc : GCv n K cfa := fun k j hk hj => (hK k j hk hj).1
  have hm : GMv n K w 0 := fun k j hk hj => (hK k j hk hj).2
  have hb8 := lt256 hb hn
  simp only [Nat.zero_add] at w0 w1 w2 w3 w4 w5
  unfold X_least M_least
  rw [xstorm_w, mstorm_w, bd1_s, bd1_s, ite_10, ite_10]
  have bad : ∃ r0 xbc_z xnc_z xfc_z qhe_z qbi_z qhv_z qwo_z qts_z qbb_z qbc_z qbw_z rf_z lst_z lwo_z, X_least_13 xbc xnc xfc (nI cv) (nI n) (nI b) cfa qhe qbi qhv qwo qts qbb qbc qbw = some (r0, xbc_z, xnc_z, xfc_z, qhe_z, qbi_z, qhv_z, qwo_z, qts_z, qbb_z, qbc_z, qbw_z) ∧ M_least_13 w rf lst lwo = some (r0, rf_z, lst_z, lwo_z) ∧ Rel xik xbc_z xnc_z xfc_z (nI sv) (nI cv) (nI n) (nI b) (nI u) (nI g) cfa che cst isw ica isi iab iun isg ifa ihe ist jsw jca jsi jab jun jsg jfa jhe jst tby tln qbi_z qhv_z qwo_z fab fbe w kp tx td rf_z fa fb := by
    unfold X_least_13 M_least_13
    rw [rx_bad, rm_badAs]
    exact ⟨_, _, _, _, _, _, _, _, _, _, _, _, _, _, _, rfl, rfl, hC, hI, hT, hF, st_bad hS, hQ⟩
  by_cases h1 : 0 ≤ a1 ∧ a1 ≤ 200
  case neg =>
    rw [if_neg h1, if_neg h1]
    exact bad
  rw [if_pos h1, if_pos h1]
  by_cases h2 : (-2 : Int32) ≤ a2
  case neg =>
    rw [if_neg h2, if_neg h2]
    exact bad
  rw [if_pos h2, if_pos h2]
  obtain ⟨v, hv, rfl⟩ := rng (m := 200) rfl h1
  have ht : (nI v).toInt = v := nI_toInt (by omega)
  obtain ⟨r, a, b', c, e, u1, u2, u3, u4, lw, f1, f2, f3, f4⟩ := both_N (S := b) (x := nI v) (qhe := qhe) (qts := qts) (qbb := qbb) (qbc := qbc) (qbw := qbw) (lst := lst) (lwo := lwo) (mov_0 (-1)) (mov_0 0) (fun _ => rfl) (fun m hm e => absurd e.symm (nI_m1 (by omega))) hc hm w0 w2 hKB hn hb hcv (by omega) (by omega) hQ
  unfold Q_find
  rw [f1, w5, f3]
  simp only [bd9, bd2]
  rcases f4 with ⟨T, t1, t2, rfl, rfl⟩ | rfl
  case inr =>
    rw [if_pos rfl, if_pos rfl]
    exact ⟨_, _, _, _, _, _, _, _, _, _, _, _, _, _, _, rfl, rfl, hC, hI, hT, hF, hS, f2⟩
  have hT8 := lt256 t1 hn
  rw [if_neg (nI_m1 (by omega)), if_neg (nI_m1 (by omega))]
  by_cases c2 : a2 = -2
  · rw [if_pos c2, if_neg (show ¬ (0 : Int32) ≤ a2 by rw [c2]; decide), if_pos c2]
    exact ⟨_, _, _, _, _, _, _, _, _, _, _, _, _, _, _, rfl, rfl, hC, hI, hT, hF, hS, f2⟩
  rw [if_neg c2]
  by_cases c1 : a2 = -1
  · have ht4 : C_total (nI T) 4 (nI n) cfa = some (nI (wor n K T)) := total_N (j := 4) hc hn (by omega) (by omega)
    rw [if_pos c1, if_neg (show ¬ (0 : Int32) ≤ a2 by rw [c1]; decide), if_neg c2, ht4, bd1_s]
    exact ⟨_, _, _, _, _, _, _, _, _, _, _, _, _, _, _, rfl, rfl, hC, hI, hT, hF, hS, f2⟩
  have h0 : (0 : Int32) ≤ a2 := by
    rw [Int32.le_iff_toInt_le] at h2 ⊢
    have q1 : (-2 : Int32).toInt = -2 := rfl
    have q2 : (-1 : Int32).toInt = -1 := rfl
    have q3 : (0 : Int32).toInt = 0 := rfl
    have q4 : a2.toInt ≠ -2 := fun e => c2 (Int32.toInt_inj.mp (by rw [e, q1]))
    have q5 : a2.toInt ≠ -1 := fun e => c1 (Int32.toInt_inj.mp (by rw [e, q2]))
    omega
  rw [if_neg c1, if_pos h0]
  unfold X_inOrder
  rw [bitc_N _ hT8, ones_N _ hT8, bd1_s, bd1_s]
  by_cases c3 : a2 < nI (pop T)
  · have p8 := pop_le T hT8
    obtain ⟨j, hj, rfl⟩ := gno (by omega) ⟨h0, c3⟩
    rw [if_pos c3, if_pos c3, ftop_N hc hKB hn (by omega) (by omega), bd1_s]
    simp only [bnd]
    obtain ⟨r, o1, o2⟩ := order_L (rf := rf) (cab := nI b) (lst := nI T) (lwo := nI (wor n K T)) hc hm w0 hKB hn t1 (show j ≤ 8 by omega) j 0 FU FU b T (-1) (by omega) (by unfold FU; omega) (by unfold FU; omega) hb t1 (fun _ _ => rfl)
    rw [show (0 : Int32) = nI 0 from rfl, o1, o2]
    exact ⟨_, _, _, _, _, _, _, _, _, _, _, _, _, _, _, rfl, rfl, hC, hI, hT, hF, hS, f2⟩
  · rw [if_neg c3, if_neg c3]
    exact ⟨_, _, _, _, _, _, _, _, _, _, _, _, _, _, _, rfl, rfl, hC, hI, hT, hF, hS, f2⟩
