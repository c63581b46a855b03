/-! PURE: fractions, odds, digest -/
theorem bd2_s {α β γ : Type} {a : α} {b : β} {f : α → β → Option γ} : bd2 (some (a, b)) f = f a b := rfl
theorem cmp0 {p : Nat} (hp : p < 2 ^ 63) : lg_cmp (lN p) 0 = if p = 0 then 0 else 1 := by
  unfold lg_cmp
  by_cases h : p = 0
  · subst h; rfl
  · rw [if_neg h]
    have h1 : (0 : Int64) < lN p := (pk_lLT (a := 0) (b := p) (by omega) hp).mpr (by omega)
    have h2 : ¬ lN p = 0 := fun e => h ((pk_lEQ hp (by omega)).mp (show lN p = lN 0 from e))
    simp [h1]
theorem gcdF_L : ∀ k p q i fuel, p < 2 ^ 63 → q < 2 ^ k → k ≤ 40 → i + 2 * k < 100 → 2 * k < fuel → F_greatestCommon_L3 fuel (lN p) (lN q) (nI i) = some (lN (Nat.gcd p q)) := by
  intro k
  induction k with
  | zero =>
    intro p q i fuel hp hq hk hi hf
    obtain ⟨g, rfl⟩ := fuel1 hf
    have : q = 0 := by omega
    subst this
    rw [F_greatestCommon_L3, F_greatestCommon_3, if_neg (show ¬ (100 : Int32) ≤ nI i from nI_ge (a := i) (b := 100) (by omega) (by omega)), cmp0 (by omega), if_pos rfl, if_pos rfl, Nat.gcd_zero_right]
  | succ k ih =>
    intro p q i fuel hp hq hk hi hf
    obtain ⟨g, rfl⟩ := fuel1 hf
    have hb : 2 ^ (k + 1) ≤ 2 ^ 41 := Nat.pow_le_pow_right (by omega) (by omega)
    have hq63 : q < 2 ^ 63 := by omega
    rw [F_greatestCommon_L3, F_greatestCommon_3, if_neg (show ¬ (100 : Int32) ≤ nI i from nI_ge (a := i) (b := 100) (by omega) (by omega)), cmp0 hq63]
    by_cases h0 : q = 0
    · subst h0
      rw [if_pos rfl, if_pos rfl, Nat.gcd_zero_right]
    · rw [if_neg h0, if_neg (by decide)]
      have n0 : ¬ lN q = 0 := fun e => h0 ((pk_lEQ hq63 (by omega)).mp (show lN q = lN 0 from e))
      rw [decide_eq_true n0, pk_lRem hp (by omega) hq63, nI_1]
      simp only [ck, bnd]
      have hr : p % q < q := Nat.mod_lt _ (by omega)
      have hr63 : p % q < 2 ^ 63 := by omega
      obtain ⟨g2, rfl⟩ : ∃ g2, g = g2 + 1 := ⟨g - 1, by omega⟩
      rw [F_greatestCommon_L3, F_greatestCommon_3, if_neg (show ¬ (100 : Int32) ≤ nI (i + 1) from nI_ge (a := i + 1) (b := 100) (by omega) (by omega)), cmp0 hr63]
      have hg1 : Nat.gcd p q = Nat.gcd q (p % q) := by rw [Nat.gcd_comm p q, Nat.gcd_rec q p, Nat.gcd_comm]
      rw [hg1]
      by_cases h1 : p % q = 0
      · rw [if_pos h1, if_pos rfl, h1, Nat.gcd_zero_right]
      · rw [if_neg h1, if_neg (by decide)]
        have n1 : ¬ lN (p % q) = 0 := fun e => h1 ((pk_lEQ hr63 (by omega)).mp (show lN (p % q) = lN 0 from e))
        rw [decide_eq_true n1, pk_lRem hq63 (by omega) hr63, nI_1]
        simp only [ck, bnd]
        have hg2 : Nat.gcd q (p % q) = Nat.gcd (p % q) (q % (p % q)) := by rw [Nat.gcd_comm q (p % q), Nat.gcd_rec (p % q) q, Nat.gcd_comm]
        rw [hg2]
        apply ih
        · omega
        · have e1 := Nat.mod_lt q (show 0 < p % q by omega)
          have e2 := Nat.div_add_mod q (p % q)
          have e3 : 1 ≤ q / (p % q) := (Nat.one_le_div_iff (by omega)).mpr (by omega)
          have e4 : p % q * 1 ≤ p % q * (q / (p % q)) := Nat.mul_le_mul_left _ e3
          have e5 : 2 ^ (k + 1) = 2 ^ k + 2 ^ k := by rw [Nat.pow_succ]; omega
          omega
        · omega
        · omega
        · omega
theorem gcdF_N {p q : Nat} (hp : p < 2 ^ 63) (hq : q < 2 ^ 40) : F_greatestCommon (lN p) (lN q) = some (lN (Nat.gcd p q)) := by
  unfold F_greatestCommon
  rw [show (0 : Int32) = nI 0 from rfl]
  exact gcdF_L 40 p q 0 FU hp hq (by omega) (by omega) (by unfold FU; omega)
theorem gcdM_L {x d fa fb : Int64} : ∀ k p q fuel, p < 2 ^ 63 → q < 2 ^ k → k ≤ 40 → 2 * k < fuel → (p ≠ 0 ∨ q ≠ 0) → M_tellsPart_L17 fuel x d (lN p) (lN q) fa fb = some (1, x / lN (Nat.gcd p q), d / lN (Nat.gcd p q)) := by
  intro k
  induction k with
  | zero =>
    intro p q fuel hp hq hk hf hz
    obtain ⟨g, rfl⟩ := fuel1 hf
    have : q = 0 := by omega
    subst this
    have n0 : ¬ lN p = 0 := fun e => absurd ((pk_lEQ hp (by omega)).mp (show lN p = lN 0 from e)) (by omega)
    rw [M_tellsPart_L17, M_tellsPart_17, cmp0 (by omega), if_pos rfl, if_pos rfl, Nat.gcd_zero_right, decide_eq_true n0]
    rfl
  | succ k ih =>
    intro p q fuel hp hq hk hf hz
    obtain ⟨g, rfl⟩ := fuel1 hf
    have hb : 2 ^ (k + 1) ≤ 2 ^ 41 := Nat.pow_le_pow_right (by omega) (by omega)
    have hq63 : q < 2 ^ 63 := by omega
    rw [M_tellsPart_L17, M_tellsPart_17, cmp0 hq63]
    by_cases h0 : q = 0
    · subst h0
      have n0 : ¬ lN p = 0 := fun e => absurd ((pk_lEQ hp (by omega)).mp (show lN p = lN 0 from e)) (by omega)
      rw [if_pos rfl, if_pos rfl, Nat.gcd_zero_right, decide_eq_true n0]
      rfl
    · rw [if_neg h0, if_neg (by decide)]
      have n0 : ¬ lN q = 0 := fun e => h0 ((pk_lEQ hq63 (by omega)).mp (show lN q = lN 0 from e))
      rw [decide_eq_true n0, pk_lRem hp (by omega) hq63]
      simp only [ck, bnd]
      have hr : p % q < q := Nat.mod_lt _ (by omega)
      have hr63 : p % q < 2 ^ 63 := by omega
      obtain ⟨g2, rfl⟩ : ∃ g2, g = g2 + 1 := ⟨g - 1, by omega⟩
      rw [M_tellsPart_L17, M_tellsPart_17, cmp0 hr63]
      have hg1 : Nat.gcd p q = Nat.gcd q (p % q) := by rw [Nat.gcd_comm p q, Nat.gcd_rec q p, Nat.gcd_comm]
      rw [hg1]
      by_cases h1 : p % q = 0
      · rw [if_pos h1, if_pos rfl, h1, Nat.gcd_zero_right, decide_eq_true n0]
        rfl
      · rw [if_neg h1, if_neg (by decide)]
        have n1 : ¬ lN (p % q) = 0 := fun e => h1 ((pk_lEQ hr63 (by omega)).mp (show lN (p % q) = lN 0 from e))
        rw [decide_eq_true n1, pk_lRem hq63 (by omega) hr63]
        simp only [ck, bnd]
        have hg2 : Nat.gcd q (p % q) = Nat.gcd (p % q) (q % (p % q)) := by rw [Nat.gcd_comm q (p % q), Nat.gcd_rec (p % q) q, Nat.gcd_comm]
        rw [hg2]
        apply ih
        · omega
        · have e1 := Nat.mod_lt q (show 0 < p % q by omega)
          have e2 := Nat.div_add_mod q (p % q)
          have e3 : 1 ≤ q / (p % q) := (Nat.one_le_div_iff (by omega)).mpr (by omega)
          have e4 : p % q * 1 ≤ p % q * (q / (p % q)) := Nat.mul_le_mul_left _ e3
          have e5 : 2 ^ (k + 1) = 2 ^ k + 2 ^ k := by rw [Nat.pow_succ]; omega
          omega
        · omega
        · omega
        · exact Or.inl h1
/-- a number that is p or -p -/
def pmN (x : Int64) (p : Nat) : Prop := x = lN p ∨ (x = -(lN p) ∧ 0 < p)
theorem neg_lN {p : Nat} (h0 : 0 < p) (hp : p < 2 ^ 62) : -(lN p) < 0 := by
  rw [Int64.lt_iff_toInt_lt, Int64.toInt_neg, pk_lT (by omega)]
  have h1 : (0 : Int64).toInt = 0 := rfl
  rw [h1, Int.bmod_def]
  omega
theorem absF {x : Int64} {p : Nat} (h : pmN x p) (hp : p < 2 ^ 62) : (if 0 < x then x else -x) = lN p := by
  rcases h with rfl | ⟨rfl, h0⟩
  · by_cases q : p = 0
    · subst q; decide
    · rw [if_pos (show (0 : Int64) < lN p from (pk_lLT (a := 0) (b := p) (by omega) (by omega)).mpr (by omega))]
  · have : ¬ (0 : Int64) < -(lN p) := Int64.not_lt.mpr (Int64.le_of_lt (neg_lN h0 hp))
    rw [if_neg this, Int64.neg_neg]
theorem absM {x : Int64} {p : Nat} (h : pmN x p) (hp : p < 2 ^ 62) (d fa fb : Int64) : M_tellsPart x d fa fb = M_tellsPart_L17 FU x d (lN p) d fa fb := by
  unfold M_tellsPart
  rcases h with rfl | ⟨rfl, h0⟩
  · rw [cmp0 (by omega), if_pos]
    split <;> decide
  · have hl : lg_cmp (-(lN p)) 0 < 0 := (cmp_lt _ _).mpr (neg_lN h0 hp)
    rw [if_neg (Int32.not_le.mpr hl)]
    simp only [bnd]
    rw [Int64.neg_neg]
theorem frac_N {x : Int64} {p d : Nat} (h : pmN x p) (hp : p < 2 ^ 62) (hd0 : 0 < d) (hd : d < 2 ^ 40) (fab fbe fa fb : Int64) : ∃ a b, F_become x (lN d) fab fbe = some (a, b) ∧ M_tellsPart x (lN d) fa fb = some (1, a, b) := by
  have hg : 0 < Nat.gcd p d := Nat.gcd_pos_of_pos_right p hd0
  have hgd : Nat.gcd p d ≤ d := Nat.gcd_le_right p hd0
  have n0 : ¬ lN (Nat.gcd p d) = 0 := fun e => absurd ((pk_lEQ (by omega) (by omega)).mp (show lN (Nat.gcd p d) = lN 0 from e)) (by omega)
  refine ⟨x / lN (Nat.gcd p d), lN d / lN (Nat.gcd p d), ?_, ?_⟩
  · unfold F_become
    rw [absF h hp, gcdF_N (by omega) hd]
    simp only [bd1]
    rw [cmp0 (by omega), if_neg (show ¬ Nat.gcd p d = 0 by omega), if_neg (show ¬ (1 : Int32) ≤ 0 by decide), decide_eq_true n0]
    rfl
  · rw [absM h hp]
    exact gcdM_L 40 p d FU (by omega) hd (by omega) (by unfold FU; omega) (Or.inr (by omega))
theorem odds_L {n b cv v : Nat} {K : Nat → Nat → Nat} {fc w rf : Nat → Int32} {xbc xnc xfc : Int32} {fab fbe fa fb : Int64} (hc : GCv n K fc) (hm : GMv n K w 0) (h0 : w 0 = nI n) (h2 : w 2 = nI cv) (h5 : w 5 = nI b) (hn : n ≤ 8) (hb : b < 2 ^ 31) (hv : v ≤ 191) : ∀ d i c fuel, i + d = 10 → d < fuel → c ≤ i → ∃ a e, X_odds_L22 fuel (nI v) (nI c) (nI i) xbc xnc xfc (nI cv) (nI n) (nI b) fc fab fbe = some (1, xbc, xnc, xfc, a, e) ∧ M_odds_L21 fuel (nI v) (nI c) (nI (v + i)) w rf fa fb = some (1, rf, a, e) := by
  intro d
  induction d with
  | zero =>
    intro i c fuel hi hf hci
    obtain ⟨g, rfl⟩ := fuel1 hf
    have hi : i = 10 := by omega
    subst hi
    obtain ⟨a, e, e1, e2⟩ := frac_N (x := lN c) (p := c) (d := 10) (Or.inl rfl) (by omega) (by omega) (by omega) fab fbe fa fb
    rw [X_odds_L22, X_odds_22, M_odds_L21, M_odds_21, if_pos (show (10 : Int32) ≤ nI 10 by decide), if_pos (show nI v + 10 ≤ nI (v + 10) by rw [show nI v + 10 = nI (v + 10) from nI_add v 10]; exact Int32.le_refl _), nI_l (by omega)]
    rw [show F_become (lN c) 10 fab fbe = _ from e1, show M_tellsPart (lN c) 10 fa fb = _ from e2]
    exact ⟨a, e, rfl, rfl⟩
  | succ d ih =>
    intro i c fuel hi hf hci
    obtain ⟨g, rfl⟩ := fuel1 hf
    have hq : ¬ nI v + 10 ≤ nI (v + i) := by
      rw [show nI v + 10 = nI (v + 10) from nI_add v 10]
      exact nI_ge (by omega) (by omega)
    rw [X_odds_L22, X_odds_22, M_odds_L21, M_odds_21, if_neg (show ¬ (10 : Int32) ≤ nI i from nI_ge (a := i) (b := 10) (by omega) (by omega)), if_neg hq, h5, nI_add, coutl_N hc hn hb, malive_N hm h0 h2 hn hb]
    simp only [bd1, bnd, bI_ite, Int32.add_zero]
    rw [nI_1, nI_1, nI_1]
    generalize (!decide (nI cv - nI (v + i) < nI (sm (inS b fun k => K k 3) n))) = y
    cases y
    · rw [if_neg (by decide), if_neg (by decide)]
      exact ih (i + 1) c g (by omega) (by omega) (by omega)
    · rw [if_pos rfl, if_pos rfl]
      exact ih (i + 1) (c + 1) g (by omega) (by omega) (by omega)
theorem B_odds {xik : Int32} {xbc : Int32} {xnc : Int32} {xfc : Int32} {csw : Int32} {cca : Int32} {csi : Int32} {cab : Int32} {cun : Int32} {csg : Int32} {cfa : Nat → Int32} {che : Nat → Int32} {cst : Nat → Int32} {isw : Int32} {ica : Int32} {isi : Int32} {iab : Int32} {iun : Int32} {isg : Int32} {ifa : Nat → Int32} {ihe : Nat → Int32} {ist : Nat → Int32} {jsw : Int32} {jca : Int32} {jsi : Int32} {jab : Int32} {jun : Int32} {jsg : Int32} {jfa : Nat → Int32} {jhe : Nat → Int32} {jst : Nat → Int32} {tby : Nat → Int32} {tln : Int32} {qbi : Nat → Int32} {qhv : Nat → Int32} {qwo : Nat → Int32} {fab : Int64} {fbe : Int64} {w : Nat → Int32} {kp : Nat → Int32} {tx : Nat → Int32} {td : Int32} {rf : Nat → Int32} {fa : Int64} {fb : Int64} (hR : Rel xik xbc xnc xfc csw cca csi cab cun csg cfa che cst isw ica isi iab iun isg ifa ihe ist jsw jca jsi jab jun jsg jfa jhe jst tby tln qbi qhv qwo fab fbe w kp tx td rf fa fb) (a1 : Int32) : ∃ (r0 : Int32) (xbc_z : Int32) (xnc_z : Int32) (xfc_z : Int32) (fab_z : Int64) (fbe_z : Int64) (rf_z : Nat → Int32) (fa_z : Int64) (fb_z : Int64), X_odds a1 xbc xnc xfc cca csi cab cfa fab fbe = some (r0, xbc_z, xnc_z, xfc_z, fab_z, fbe_z) ∧ M_odds a1 w rf fa fb = some (r0, rf_z, fa_z, fb_z) ∧ Rel xik xbc_z xnc_z xfc_z csw cca csi cab cun csg cfa che cst isw ica isi iab iun isg ifa ihe ist jsw jca jsi jab jun jsg jfa jhe jst tby tln qbi qhv qwo fab_z fbe_z w kp tx td rf_z fa_z fb_z := by
  obtain ⟨hC, hI, hT, hF, hS, hQ⟩ := hR
  obtain ⟨n, u, g, b, sv, cv, K, f, hh, hn, hu, hg, hb, hsv, hcv, rfl, rfl, rfl, rfl, rfl, rfl, w0, w1, w2, w3, w4, w5, hK, hKB, hst, hfu, hf⟩ := id hC
  have hc : GCv n K cfa := fun k j hk hj => (hK k j hk hj).1
  have hm : GMv n K w 0 := fun k j hk hj => (hK k j hk hj).2
  have hb8 := lt256 hb hn
  simp only [Nat.zero_add] at w0 w1 w2 w3 w4 w5
  unfold X_odds M_odds
  rw [within_w, show M_in a1.toInt64 0 191 = _ from in_w a1 0 191]
  simp only [bd1, ite_10]
  by_cases h : 0 ≤ a1 ∧ a1 ≤ 191
  · obtain ⟨v, hv, rfl⟩ := rng (m := 191) rfl h
    rw [if_pos h, if_pos h]
    obtain ⟨a, e, e1, e2⟩ := odds_L (rf := rf) (xbc := xbc) (xnc := xnc) (xfc := xfc) (fab := fab) (fbe := fbe) (fa := fa) (fb := fb) hc hm w0 w2 w5 hn (by omega) hv 10 0 0 FU (by omega) (by unfold FU; omega) (by omega)
    rw [show (0 : Int32) = nI 0 from rfl]
    exact ⟨_, _, _, _, _, _, _, _, _, e1, e2, hC, hI, hT, ⟨rfl, rfl⟩, hS, hQ⟩
  · rw [if_neg h, if_neg h, rx_bad, rm_bad]
    exact ⟨_, _, _, _, _, _, _, _, _, rfl, rfl, hC, hI, hT, hF, st_bad hS, hQ⟩
theorem bitv_N : ∀ b, b < 256 → ∀ k, k < 8 → (nI b >>> (nI k &&& 31)) &&& 1 = bI (b.testBit k) := by decide +kernel
theorem dg3_L {i g : Nat} {csw cca csi cab cun tln td : Int32} {cfa cst w : Nat → Int32} {fab fbe fa fb : Int64} {rc : Int64 → Int32 → Int32 → Int32 → Int32 → Int32 → Int32 → Int32 → (Nat → Int32) → (Nat → Int32) → Int32 → Int64 → Int64 → Option Int64} (h3 : w 3 = nI g) (hst : ∀ i, i < 3 * g → cst i = w (0 + (54 + i))) (hi : i < g) (hg : g ≤ 6) : ∀ d j f mf h, j + d = 3 → d < f → ∃ h', X_digest_L127 rc f h (nI i) (nI j) csw cca csi cab cun (nI g) cfa cst tln fab fbe = rc h' (nI (i + 1)) csw cca csi cab cun (nI g) cfa cst tln fab fbe ∧ M_digest_L99 (mf + d) (nI (3 * i + j)) w td fa fb h = M_digest_L99 mf (nI (3 * (i + 1))) w td fa fb h' := by
  intro d
  induction d with
  | zero =>
    intro j f mf h hj hf
    obtain ⟨q, rfl⟩ := fuel1 hf
    have hj : j = 3 := by omega
    subst hj
    refine ⟨h, ?_, by rw [show 3 * i + 3 = 3 * (i + 1) by omega]; rfl⟩
    rw [X_digest_L127, X_digest_127, if_pos (show (3 : Int32) ≤ nI 3 by decide)]
    simp only [bnd]
    rw [nI_1]
  | succ d ih =>
    intro j f mf h hj hf
    obtain ⟨q, rfl⟩ := fuel1 hf
    obtain ⟨h', e1, e2⟩ := ih (j + 1) q mf ((31 : Int64) * h + (cst (3 * i + j)).toInt64) (by omega) (by omega)
    refine ⟨h', ?_, ?_⟩
    · rw [← e1, X_digest_L127, X_digest_127, if_neg (show ¬ (3 : Int32) ≤ nI j from nI_ge (a := j) (b := 3) (by omega) (by omega)), sighted_N hi hg (by omega), bd1_s]
      simp only [bnd]
      rw [nI_1]
    · rw [← e2, show mf + (d + 1) = (mf + d) + 1 by omega, M_digest_L99, M_digest_99, h3, show (3 : Int32) * nI g = nI (3 * g) from pk_mul 3 g, if_neg (nI_ge (by omega) (by omega)), show (54 : Int32) + nI (3 * i + j) = nI (54 + (3 * i + j)) from nI_add 54 _, inb_t (by omega) (by omega), nI_clamp (by omega)]
      unfold M_mix
      simp only [ck, bnd, bd1]
      rw [nI_1, hst (3 * i + j) (by omega), Nat.zero_add, Nat.add_assoc (3 * i) j 1]
theorem dg2_L {g : Nat} {csw cca csi cab cun tln td : Int32} {cfa cst w : Nat → Int32} {fab fbe : Int64} (h3 : w 3 = nI g) (hst : ∀ i, i < 3 * g → cst i = w (0 + (54 + i))) (hg : g ≤ 6) : ∀ d i f mf h, i + d = g → d < f → 3 * d < mf → ∃ r, X_digest_L113 f h (nI i) csw cca csi cab cun (nI g) cfa cst tln fab fbe = some r ∧ M_digest_L99 mf (nI (3 * i)) w td fab fbe h = some (r, r) := by
  intro d
  induction d with
  | zero =>
    intro i f mf h hi hf hmf
    obtain ⟨q, rfl⟩ := fuel1 hf
    obtain ⟨q2, rfl⟩ := fuel1 hmf
    have hi : i = g := by omega
    subst hi
    rw [X_digest_L113, X_digest_113, if_pos (nI_le (by omega) (by omega)), M_digest_L99, M_digest_99, h3, show (3 : Int32) * nI i = nI (3 * i) from pk_mul 3 i, if_pos (nI_le (by omega) (by omega))]
    exact ⟨_, rfl, rfl⟩
  | succ d ih =>
    intro i f mf h hi hf hmf
    obtain ⟨q, rfl⟩ := fuel1 hf
    obtain ⟨m2, rfl⟩ : ∃ m2, mf = m2 + 3 := ⟨mf - 3, by omega⟩
    obtain ⟨h', e1, e2⟩ := dg3_L (csw := csw) (cca := cca) (csi := csi) (cab := cab) (cun := cun) (tln := tln) (td := td) (cfa := cfa) (fab := fab) (fbe := fbe) (fa := fab) (fb := fbe) (rc := X_digest_L113 q) h3 hst (show i < g by omega) hg 3 0 FU m2 h (by omega) (by unfold FU; omega)
    rw [show 3 * i + 0 = 3 * i from rfl] at e2
    rw [X_digest_L113, X_digest_113, if_neg (nI_ge (by omega) (by omega)), e2, show (0 : Int32) = nI 0 from rfl, e1]
    exact ih (i + 1) q m2 h' (by omega) (by omega) (by omega)
theorem dg1_L {n b k : Nat} {K : Nat → Nat → Nat} {csw cca cun csg tln td : Int32} {cfa cst w : Nat → Int32} {fab fbe fa fb : Int64} {rc : Int64 → Int32 → Int32 → Int32 → Int32 → Int32 → Int32 → Int32 → (Nat → Int32) → (Nat → Int32) → Int32 → Int64 → Int64 → Option Int64} {rm : Int32 → (Nat → Int32) → Int32 → Int64 → Int64 → Int64 → Option (Int64 × Int64)} (hc : GCv n K cfa) (hm : GMv n K w 0) (h5 : w 5 = nI b) (hn : n ≤ 8) (hb : b < 256) (hk : k < n) : ∀ d j f h, j + d = 6 → d < f → ∃ h', X_digest_L47 rc f h (nI k) (nI j) csw cca (nI n) (nI b) cun csg cfa cst tln fab fbe = rc h' (nI (k + 1)) csw cca (nI n) (nI b) cun csg cfa cst tln fab fbe ∧ M_digest_L45 rm f (nI k) (nI j) w td fa fb h = rm (nI (k + 1)) w td fa fb h' := by
  intro d
  induction d with
  | zero =>
    intro j f h hj hf
    obtain ⟨q, rfl⟩ := fuel1 hf
    have hj : j = 6 := by omega
    subst hj
    refine ⟨(31 : Int64) * h + (bI (b.testBit k)).toInt64, ?_, ?_⟩
    · rw [X_digest_L47, X_digest_47, if_pos (show (6 : Int32) ≤ nI 6 by decide), isIn_N (by omega) (by omega), bd1_s]
      simp only [ite_10, bnd]
      rw [nI_1]
      cases b.testBit k
      · rw [if_neg (by decide)]; rfl
      · rw [if_pos rfl]; rfl
    · rw [M_digest_L45, M_digest_45, if_pos (show (6 : Int32) ≤ nI 6 by decide), h5, bitv_N b hb k (by omega)]
      unfold M_mix
      simp only [bnd, bd1]
      rw [nI_1]
  | succ d ih =>
    intro j f h hj hf
    obtain ⟨q, rfl⟩ := fuel1 hf
    obtain ⟨h', e1, e2⟩ := ih (j + 1) q ((31 : Int64) * h + (nI (K k j)).toInt64) (by omega) (by omega)
    have ej := hm k j hk (by omega)
    rw [Nat.zero_add] at ej
    refine ⟨h', ?_, ?_⟩
    · rw [← e1, X_digest_L47, X_digest_47, if_neg (show ¬ (6 : Int32) ≤ nI j from nI_ge (a := j) (b := 6) (by omega) (by omega)), fact_N hc hn hk (by omega), bd1_s]
      simp only [bnd]
      rw [nI_1]
    · rw [← e2, M_digest_L45, M_digest_45, if_neg (show ¬ (6 : Int32) ≤ nI j from nI_ge (a := j) (b := 6) (by omega) (by omega)), show (6 : Int32) + 8 * nI j + nI k = nI (6 + 8 * j + k) by rw [show (8 : Int32) = nI 8 from rfl, show (6 : Int32) = nI 6 from rfl, pk_mul, nI_add, nI_add], inb_t (by omega) (by omega), nI_clamp (by omega), ej]
      unfold M_mix
      simp only [ck, bnd, bd1]
      rw [nI_1]
theorem dg0_L {n b g : Nat} {K : Nat → Nat → Nat} {csw cca cun tln td : Int32} {cfa cst w : Nat → Int32} {fab fbe : Int64} (hc : GCv n K cfa) (hm : GMv n K w 0) (h0 : w 0 = nI n) (h3 : w 3 = nI g) (h5 : w 5 = nI b) (hst : ∀ i, i < 3 * g → cst i = w (0 + (54 + i))) (hg : g ≤ 6) (hn : n ≤ 8) (hb : b < 256) : ∀ d k f h, k + d = n → d < f → ∃ r, X_digest_L33 f h (nI k) csw cca (nI n) (nI b) cun (nI g) cfa cst tln fab fbe = some r ∧ M_digest_L33 f (nI k) w td fab fbe h = some (r, r) := by
  intro d
  induction d with
  | zero =>
    intro k f h hk hf
    obtain ⟨q, rfl⟩ := fuel1 hf
    have hk : k = n := by omega
    subst hk
    rw [X_digest_L33, X_digest_33, if_pos (nI_le (by omega) (by omega)), M_digest_L33, M_digest_33, h0, if_pos (nI_le (by omega) (by omega)), show (0 : Int32) = nI 0 from rfl]
    exact dg2_L h3 hst hg g 0 FU FU h (by omega) (by unfold FU; omega) (by unfold FU; omega)
  | succ d ih =>
    intro k f h hk hf
    obtain ⟨q, rfl⟩ := fuel1 hf
    obtain ⟨h', e1, e2⟩ := dg1_L (csw := csw) (cca := cca) (cun := cun) (csg := nI g) (tln := tln) (td := td) (cst := cst) (fab := fab) (fbe := fbe) (fa := fab) (fb := fbe) (rc := X_digest_L33 q) (rm := M_digest_L33 q) hc hm h5 hn hb (show k < n by omega) 6 0 FU h (by omega) (by unfold FU; omega)
    rw [X_digest_L33, X_digest_33, if_neg (nI_ge (by omega) (by omega)), M_digest_L33, M_digest_33, h0, if_neg (nI_ge (by omega) (by omega)), show (0 : Int32) = nI 0 from rfl, e1, e2]
    exact ih (k + 1) q h' (by omega) (by omega)
theorem B_digest {xik : Int32} {xbc : Int32} {xnc : Int32} {xfc : Int32} {csw : Int32} {cca : Int32} {csi : Int32} {cab : Int32} {cun : Int32} {csg : Int32} {cfa : Nat → Int32} {che : Nat → Int32} {cst : Nat → Int32} {isw : Int32} {ica : Int32} {isi : Int32} {iab : Int32} {iun : Int32} {isg : Int32} {ifa : Nat → Int32} {ihe : Nat → Int32} {ist : Nat → Int32} {jsw : Int32} {jca : Int32} {jsi : Int32} {jab : Int32} {jun : Int32} {jsg : Int32} {jfa : Nat → Int32} {jhe : Nat → Int32} {jst : Nat → Int32} {tby : Nat → Int32} {tln : Int32} {qbi : Nat → Int32} {qhv : Nat → Int32} {qwo : Nat → Int32} {fab : Int64} {fbe : Int64} {w : Nat → Int32} {kp : Nat → Int32} {tx : Nat → Int32} {td : Int32} {rf : Nat → Int32} {fa : Int64} {fb : Int64} {hh : Int64} (hR : Rel xik xbc xnc xfc csw cca csi cab cun csg cfa che cst isw ica isi iab iun isg ifa ihe ist jsw jca jsi jab jun jsg jfa jhe jst tby tln qbi qhv qwo fab fbe w kp tx td rf fa fb) : ∃ (r0 : Int64) (hh_z : Int64), X_digest csw cca csi cab cun csg cfa cst tln fab fbe = some r0 ∧ M_digest w td fa fb hh = some (r0, hh_z) ∧ Rel xik xbc xnc xfc csw cca csi cab cun csg cfa che cst isw ica isi iab iun isg ifa ihe ist jsw jca jsi jab jun jsg jfa jhe jst tby tln qbi qhv qwo fab fbe w kp tx td rf fa fb := by
  obtain ⟨hC, hI, hT, hF, hS, hQ⟩ := id hR
  have htt : tln = td := by obtain ⟨m, -, e1, e2, -⟩ := hT; rw [e1, e2]
  have hcnt := fun a => cnt_eq hC htt a
  obtain ⟨n, u, g, b, sv, cv, K, f, hh', hn, hu, hg, hb, hsv, hcv, rfl, rfl, rfl, rfl, rfl, rfl, w0, w1, w2, w3, w4, w5, hK, hKB, hst, hfu, hf⟩ := id hC
  have hc : GCv n K cfa := fun k j hk hj => (hK k j hk hj).1
  have hm : GMv n K w 0 := fun k j hk hj => (hK k j hk hj).2
  have hb8 := lt256 hb hn
  simp only [Nat.zero_add] at w0 w1 w2 w3 w4 w5
  have key : ∀ d i fu h, i + d = 7 → d < fu → ∃ r, X_digest_L6 fu h (nI i) (nI sv) (nI cv) (nI n) (nI b) (nI u) (nI g) cfa cst tln fab fbe = some r ∧ M_digest_L9 fu (nI i) w td fab fbe h = some (r, r) := by
    intro d
    induction d with
    | zero =>
      intro i fu h hi hfu
      obtain ⟨q, rfl⟩ := fuel1 hfu
      have hi : i = 7 := by omega
      subst hi
      rw [X_digest_L6, X_digest_6, if_pos (show (7 : Int32) ≤ nI 7 by decide), M_digest_L9, M_digest_9, if_pos (show (7 : Int32) ≤ nI 7 by decide), show (0 : Int32) = nI 0 from rfl]
      exact dg0_L hc hm w0 w3 w5 hst hg hn hb8 n 0 FU h (by omega) (by unfold FU; omega)
    | succ d ih =>
      intro i fu h hi hfu
      obtain ⟨q, rfl⟩ := fuel1 hfu
      obtain ⟨r, c1, c2⟩ := hcnt (nI i)
      obtain ⟨r', e1, e2⟩ := ih (i + 1) q ((31 : Int64) * h + r.toInt64) (by omega) (by omega)
      refine ⟨r', ?_, ?_⟩
      · rw [X_digest_L6, X_digest_6, if_neg (show ¬ (7 : Int32) ≤ nI i from nI_ge (a := i) (b := 7) (by omega) (by omega)), c1, bd1_s, ← e1]
        simp only [bnd]
        rw [nI_1]
      · rw [M_digest_L9, M_digest_9, if_neg (show ¬ (7 : Int32) ≤ nI i from nI_ge (a := i) (b := 7) (by omega) (by omega)), c2, bd1_s, ← e2]
        unfold M_mix
        simp only [bnd, bd1]
        rw [nI_1]
  obtain ⟨hF1, hF2⟩ := hF
  subst hF1
  subst hF2
  obtain ⟨r, e1, e2⟩ := key 7 0 FU 1117 (by omega) (by unfold FU; omega)
  unfold X_digest M_digest
  rw [show (0 : Int32) = nI 0 from rfl]
  exact ⟨r, r, e1, e2, hR⟩
