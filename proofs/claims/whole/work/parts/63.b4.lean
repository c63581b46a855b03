/-! PURE: what lies on top; kinds; over, of -/
def bI (b : Bool) : Int32 := if b = true then 1 else 0
theorem bI_t : bI true = 1 := rfl
theorem bI_f : bI false = 0 := rfl
theorem bI_0 {b : Bool} : bI b = 0 ↔ b = false := by cases b <;> decide
theorem bI_ite {α : Type} {b : Bool} {x y : α} : (if bI b = 0 then x else y) = if b = true then y else x := by
  cases b
  · rfl
  · rfl
theorem bI_eq {b : Bool} : (if b = true then (1 : Int32) else 0) = bI b := rfl
theorem bo_bI (b : Bool) : bo (bI b) = true := by cases b <;> rfl
def anyB (p : Nat → Bool) : Nat → Bool
  | 0 => false
  | n + 1 => anyB p n || p n
theorem anyB_t {p : Nat → Bool} : ∀ {n i : Nat}, i < n → p i = true → anyB p n = true
  | 0, _, h, _ => absurd h (by omega)
  | n + 1, i, h, hp => by
    rw [anyB]
    by_cases e : i = n
    · subst e; rw [hp, Bool.or_true]
    · rw [anyB_t (show i < n by omega) hp, Bool.true_or]
theorem anyB_f {p : Nat → Bool} : ∀ {n : Nat}, (∀ i, i < n → p i = false) → anyB p n = false
  | 0, _ => rfl
  | n + 1, h => by rw [anyB, anyB_f (fun i hi => h i (by omega)), h n (by omega)]; rfl
theorem anyB_f' {p : Nat → Bool} {n : Nat} (h : anyB p n = false) {i : Nat} (hi : i < n) : p i = false := by
  cases e : p i
  · rfl
  · rw [anyB_t hi e] at h; exact Bool.noConfusion h
/-- i bars the way to k -/
def blk (S k : Nat) (Hd : Nat → Nat) (ab : Nat → Bool) (i : Nat) : Bool := (!decide (i = k)) && S.testBit i && decide (Hd i = Hd k) && ab i
def topB (n S k : Nat) (Hd : Nat → Nat) (ab : Nat → Bool) : Bool := S.testBit k && !anyB (blk S k Hd ab) n
theorem ctop_L {n S k : Nat} {K : Nat → Nat → Nat} {fc : Nat → Int32} (hc : GCv n K fc) (hn : n ≤ 8) (hS : S < 2 ^ 31) (hKB : KB n K) (hk : k < n) : ∀ d i fuel, i + d = n → d < fuel → k < i → anyB (blk S k (fun k => K k 2) (fun i => decide (k < i))) i = false → C_isTop_L22 fuel (nI k) (nI S) (nI i) (nI n) fc = some (bI (!anyB (blk S k (fun k => K k 2) (fun i => decide (k < i))) n)) := by
  intro d
  induction d with
  | zero =>
    intro i fuel hi hf hki ha
    obtain ⟨g, rfl⟩ := fuel1 hf
    have hi : i = n := by omega
    subst hi
    rw [C_isTop_L22, C_isTop_22, if_pos (nI_le (by omega) (by omega)), ha]
    rfl
  | succ d ih =>
    intro i fuel hi hf hki ha
    obtain ⟨g, rfl⟩ := fuel1 hf
    have h := ih (i + 1) g (by omega) (by omega) (by omega)
    rw [C_isTop_L22, C_isTop_22, if_neg (nI_ge (by omega) (by omega)), isIn_N hS (by omega)]
    simp only [bd1, bnd, ite_10]
    rw [nI_1, show (2 : Int32) = nI 2 from rfl, fact_N hc hn (by omega) (by omega), fact_N hc hn (by omega) (by omega)]
    by_cases hb : S.testBit i = true
    · rw [if_pos hb]
      dsimp only
      have b1 := (hKB i (by omega)).2.2.1
      have b2 := (hKB k (by omega)).2.2.1
      by_cases he : K i 2 = K k 2
      · rw [if_pos (by rw [he]), anyB_t (i := i) (by omega) (by
          unfold blk
          rw [hb]
          simp [he, hki]
          omega)]
        rfl
      · rw [if_neg (fun q => he ((nI_eq (by omega) (by omega)).mp q))]
        apply h
        rw [anyB, ha]
        unfold blk
        simp [he]
    · rw [if_neg hb]
      apply h
      rw [anyB, ha]
      unfold blk
      simp [hb]
theorem ctop_N {n S k : Nat} {K : Nat → Nat → Nat} {fc : Nat → Int32} (hc : GCv n K fc) (hn : n ≤ 8) (hS : S < 2 ^ 31) (hKB : KB n K) (hk : k < n) : C_isTop (nI k) (nI S) (nI n) fc = some (bI (topB n S k (fun k => K k 2) (fun i => decide (k < i)))) := by
  unfold C_isTop topB
  rw [chas_N (by omega) (by omega), isIn_N hS (by omega)]
  simp only [bd1, bnd, ite_10]
  rw [if_pos hk, nI_1]
  by_cases hb : S.testBit k = true
  · rw [if_pos hb, ctop_L hc hn hS hKB hk (n - (k + 1)) (k + 1) FU (by omega) (by unfold FU; omega) (by omega) (anyB_f (fun i hi => ?_)), hb]
    · rfl
    · unfold blk
      simp
      omega
  · rw [if_neg hb, Bool.eq_false_iff.mpr hb]
    rfl
theorem mtop_L {n S k o : Nat} {Hd : Nat → Nat} {ab : Nat → Bool} {x4 x5 : Int32} {w : Nat → Int32} (ho : o + 80 ≤ 320) (h0 : w o = nI n) (hn : n ≤ 8) (hS : S < 2 ^ 31) (hk : k < n) (hB : ∀ i, i < n → Hd i < 100)
    (hH : ∀ i, i < n → (nI i = x4 → x5 = nI (Hd i)) ∧ (¬ nI i = x4 → w (o + (22 + i)) = nI (Hd i)))
    (hA : ∀ i, i < n → ab i = (decide (nI i = x4) || (!decide (nI k = x4) && decide (k < i)))) :
    ∀ d i fuel, i + d = n → d < fuel → M_isTop_L34 fuel (nI o) (nI S) (nI k) x4 x5 (nI (Hd k)) (bI (S.testBit k && !anyB (blk S k Hd ab) i)) (nI i) w = some (bI (topB n S k Hd ab)) := by
  intro d
  induction d with
  | zero =>
    intro i fuel hi hf
    obtain ⟨g, rfl⟩ := fuel1 hf
    have hi : i = n := by omega
    subst hi
    rw [M_isTop_L34, M_isTop_34, Int32.add_zero, inb_t (by omega) (by omega), nI_clamp (by omega), h0, if_pos (nI_le (by omega) (by omega)), bo_bI]
    rfl
  | succ d ih =>
    intro i fuel hi hf
    obtain ⟨g, rfl⟩ := fuel1 hf
    have h := ih (i + 1) g (by omega) (by omega)
    have hin : i < n := by omega
    obtain ⟨hH1, hH2⟩ := hH i hin
    have step : ∀ y0 : Bool, (i ≠ k → y0 = ab i) → M_isTop_97 (M_isTop_L34 g) (nI o) (nI S) (nI k) x4 x5 (nI (Hd k)) (bI (S.testBit k && !anyB (blk S k Hd ab) i)) (nI i) (nI (Hd i)) (bI y0) w = some (bI (topB n S k Hd ab)) := by
      intro y0 hy
      rw [← h]
      unfold M_isTop_97
      simp only [bnd]
      rw [nI_1, has_N hS (by omega)]
      simp only [bd1, ite_10]
      rw [show anyB (blk S k Hd ab) (i + 1) = (anyB (blk S k Hd ab) i || blk S k Hd ab i) from rfl]
      cases ht : (S.testBit k && !anyB (blk S k Hd ab) i)
      · rw [if_pos (show bI false = 0 from rfl)]
        have : (S.testBit k && !(anyB (blk S k Hd ab) i || blk S k Hd ab i)) = false := by
          cases e1 : S.testBit k <;> cases e2 : anyB (blk S k Hd ab) i <;> rw [e1, e2] at ht <;> simp at ht ⊢
        rw [this]
        rfl
      · have e1 : S.testBit k = true := by cases e : S.testBit k <;> rw [e] at ht <;> simp at ht ⊢
        have e2 : anyB (blk S k Hd ab) i = false := by cases e : anyB (blk S k Hd ab) i <;> rw [e] at ht <;> simp at ht ⊢
        rw [if_neg (show ¬ bI true = 0 by decide), e1, e2, Bool.false_or, Bool.true_and]
        by_cases q1 : i = k
        · rw [if_pos (by rw [q1]), show blk S k Hd ab i = false by unfold blk; simp [q1]]
          rfl
        rw [if_neg (fun q => q1 ((nI_eq (by omega) (by omega)).mp q))]
        by_cases q2 : S.testBit i = true
        case neg =>
          rw [if_neg q2, show blk S k Hd ab i = false by unfold blk; simp [q2]]
          rfl
        rw [if_pos q2]
        have b1 := hB i hin
        have b2 := hB k hk
        by_cases q3 : Hd i = Hd k
        case neg =>
          rw [if_neg (fun q => q3 ((nI_eq (by omega) (by omega)).mp q)), show blk S k Hd ab i = false by unfold blk; simp [q3]]
          rfl
        rw [if_pos (by rw [q3]), hy q1, show blk S k Hd ab i = ab i by unfold blk; simp [q1, q2, q3]]
        cases ab i <;> rfl
    have s71 : M_isTop_71 (M_isTop_L34 g) (nI o) (nI S) (nI k) x4 x5 (nI (Hd k)) (bI (S.testBit k && !anyB (blk S k Hd ab) i)) (nI i) (nI (Hd i)) w = some (bI (topB n S k Hd ab)) := by
      unfold M_isTop_71 M_isTop_92 M_isTop_96
      have hAi := hA i hin
      by_cases q1 : nI i = x4
      · rw [if_pos q1]
        exact step true (fun _ => by rw [hAi]; simp [q1])
      rw [if_neg q1]
      by_cases q2 : nI k = x4
      · rw [if_pos q2]
        exact step false (fun _ => by rw [hAi]; simp [q1, q2])
      rw [if_neg q2]
      by_cases q3 : i ≤ k
      · rw [if_pos (nI_le q3 (by omega))]
        exact step false (fun _ => by rw [hAi]; simp [q1, q2]; omega)
      · rw [if_neg (nI_ge (by omega) (by omega))]
        exact step true (fun _ => by rw [hAi]; simp [q1, q2]; omega)
    rw [M_isTop_L34, M_isTop_34, Int32.add_zero, inb_t (i := o) (by omega) (by omega), nI_clamp (n := o) (by omega), h0, if_neg (nI_ge (by omega) (by omega)), show (22 : Int32) = nI 22 from rfl, nI_add, nI_add, inb_t (i := o + 22 + i) (by omega) (by omega), nI_clamp (n := o + 22 + i) (by omega)]
    simp only [ck]
    by_cases q1 : nI i = x4
    · rw [if_pos q1, hH1 q1]
      rw [hH1 q1] at s71
      exact s71
    · rw [if_neg q1, show o + 22 + i = o + (22 + i) by omega, hH2 q1]
      exact s71
theorem mtop_N {n S k o : Nat} {Hd : Nat → Nat} {ab : Nat → Bool} {x4 x5 : Int32} {w : Nat → Int32} (ho : o + 80 ≤ 320) (h0 : w o = nI n) (hn : n ≤ 8) (hS : S < 2 ^ 31) (hk : k < n) (hB : ∀ i, i < n → Hd i < 100)
    (hH : ∀ i, i < n → (nI i = x4 → x5 = nI (Hd i)) ∧ (¬ nI i = x4 → w (o + (22 + i)) = nI (Hd i)))
    (hA : ∀ i, i < n → ab i = (decide (nI i = x4) || (!decide (nI k = x4) && decide (k < i)))) :
    M_isTop (nI o) (nI S) (nI k) x4 x5 w = some (bI (topB n S k Hd ab)) := by
  have h := mtop_L ho h0 hn hS hk hB hH hA n 0 FU (by omega) (by unfold FU; omega)
  have e0 : (S.testBit k && !anyB (blk S k Hd ab) 0) = S.testBit k := by show (S.testBit k && !false) = _; simp
  rw [e0] at h
  have h22 : M_isTop_22 (nI o) (nI S) (nI k) x4 x5 (nI (Hd k)) w = some (bI (topB n S k Hd ab)) := by
    unfold M_isTop_22
    rw [has_N hS (by omega)]
    exact h
  unfold M_isTop
  rw [show (22 : Int32) = nI 22 from rfl, nI_add, nI_add, inb_t (by omega) (by omega), nI_clamp (by omega), show o + 22 + k = o + (22 + k) by omega]
  by_cases q1 : nI k = x4
  · rw [if_pos q1]
    have := (hH k hk).1 q1
    rw [this]
    rw [this] at h22
    exact h22
  · rw [if_neg q1, (hH k hk).2 q1]
    exact h22
theorem nI_m1 {i : Nat} (h : i < 2 ^ 31) : ¬ nI i = (-1 : Int32) := by
  intro e
  have h1 : ¬ nI i < 0 := nI_pos h
  rw [e] at h1
  exact h1 (by decide)
/-- nobody moved -/
theorem mtop_0 {n S k o : Nat} {K : Nat → Nat → Nat} {w : Nat → Int32} (ho : o + 80 ≤ 320) (h0 : w o = nI n) (hn : n ≤ 8) (hS : S < 2 ^ 31) (hk : k < n) (hKB : KB n K) (hm : GMv n K w o) : M_isTop (nI o) (nI S) (nI k) (-1) 0 w = some (bI (topB n S k (fun k => K k 2) (fun i => decide (k < i)))) := by
  refine mtop_N ho h0 hn hS hk (fun i hi => ?_) (fun i hi => ⟨fun q => absurd q (nI_m1 (by omega)), fun _ => ?_⟩) (fun i hi => ?_)
  · have := (hKB i hi).2.2.1
    omega
  · have := hm i 2 hi (by omega)
    rwa [show 6 + 8 * 2 + i = 22 + i by omega] at this
  · have q1 := nI_m1 (i := i) (by omega)
    have q2 := nI_m1 (i := k) (by omega)
    simp [q1, q2]
theorem mfree_N {n b k : Nat} {K : Nat → Nat → Nat} {w : Nat → Int32} (h0 : w 0 = nI n) (h5 : w 5 = nI b) (hn : n ≤ 8) (hS : b < 2 ^ 31) (hk : k < n) (hKB : KB n K) (hm : GMv n K w 0) : M_isFree (nI k) w = some (bI (topB n b k (fun k => K k 2) (fun i => decide (k < i)))) := by
  unfold M_isFree
  rw [h5, show M_isTop 0 (nI b) (nI k) (-1) 0 w = _ from mtop_0 (o := 0) (by omega) h0 hn hS hk hKB hm]
  simp only [bd1, bo_bI, ck]
/-- what is made good of one -/
def gdN (k v : Nat) : Nat := if k = 1 then 0 else if k = 3 then 3 * v / 4 else if k = 4 then 5 else if k = 5 then 3 * v / 4 / 2 else v
theorem kgood_N : ∀ k, k < 6 → ∀ v, v < 61 → K_madeGood k (nI v) = some (nI (gdN k v)) := by decide +kernel
theorem mgood_N : ∀ k, k < 6 → ∀ v, v < 61 → M_goodOf (nI k) (nI v) = some (nI (gdN k v)) := by decide +kernel
theorem gdN_le : ∀ k, k < 6 → ∀ v, v < 61 → gdN k v ≤ 60 := by decide +kernel
theorem kind_N {n k : Nat} {K : Nat → Nat → Nat} {fc : Nat → Int32} (hc : GCv n K fc) (hn : n ≤ 8) (hk : k < n) (hKB : KB n K) : B_kindOf (nI k) (nI n) fc = some (K k 0) := by
  have b := (hKB k hk).1
  unfold B_kindOf
  rw [show (0 : Int32) = nI 0 from rfl, fact_N hc hn hk (by omega)]
  simp only [bd1]
  rw [within_w]
  simp only [show nI 0 = (0 : Int32) from rfl, ite_10]
  rw [if_pos (show (0 : Int32) ≤ nI (K k 0) ∧ nI (K k 0) ≤ 5 from rng_in (m := 5) b (by omega))]
  unfold B_kindOf_25
  rw [inb_t (by omega) (by omega), nI_clamp (by omega)]
  rfl
theorem cgood_N {n k : Nat} {K : Nat → Nat → Nat} {fc : Nat → Int32} (hc : GCv n K fc) (hn : n ≤ 8) (hk : k < n) (hKB : KB n K) : B_madeGoodOf (nI k) (nI n) fc = some (nI (gdN (K k 0) (K k 5))) := by
  have b := hKB k hk
  unfold B_madeGoodOf
  rw [kind_N hc hn hk hKB, show (5 : Int32) = nI 5 from rfl, fact_N hc hn hk (by omega)]
  simp only [bd1]
  rw [kgood_N _ (by omega) _ (by omega)]
theorem mmade_N {n k : Nat} {K : Nat → Nat → Nat} {w : Nat → Int32} (hm : GMv n K w 0) (hn : n ≤ 8) (hk : k < n) (hKB : KB n K) : M_madeGood (nI k) w = some (nI (gdN (K k 0) (K k 5))) := by
  have b := hKB k hk
  have e0 := hm k 0 hk (by omega)
  have e5 := hm k 5 hk (by omega)
  rw [show 0 + (6 + 8 * 0 + k) = 6 + k by omega] at e0
  rw [show 0 + (6 + 8 * 5 + k) = 46 + k by omega] at e5
  unfold M_madeGood
  rw [show (6 : Int32) = nI 6 from rfl, show (46 : Int32) = nI 46 from rfl, nI_add, nI_add, inb_t (by omega) (by omega), inb_t (by omega) (by omega), nI_clamp (by omega), nI_clamp (by omega), e0, e5, mgood_N _ (by omega) _ (by omega)]
  rfl
theorem pop_add : ∀ a, a < 256 → ∀ k, k < 8 → a.testBit k = false → pop (a + 2 ^ k) = pop a + 1 := by decide +kernel
theorem pop_le : ∀ a, a < 256 → pop a ≤ 8 := by decide +kernel
theorem pop_1 : ∀ a, a < 256 → ∀ k, k < 8 → a.testBit k = true → 1 ≤ pop a := by decide +kernel
theorem lt256 {b n : Nat} (h : b < 2 ^ n) (hn : n ≤ 8) : b < 256 := Nat.lt_of_lt_of_le h (Nat.pow_le_pow_right (by omega) hn)
theorem chain_N {n u b : Nat} {f hh : Nat → Nat} (hn : n ≤ 8) (hb : b < 2 ^ n) (hfu : f u = b) (hf : ∀ i, i < u → hh i < n ∧ f i = f (i + 1) + 2 ^ hh i ∧ (f (i + 1)).testBit (hh i) = false) : ∀ d i, i + d = u → f i < 2 ^ n ∧ pop (f i) = pop b + d := by
  intro d
  induction d with
  | zero =>
    intro i hi
    have : i = u := by omega
    subst this
    rw [hfu]
    exact ⟨hb, rfl⟩
  | succ d ih =>
    intro i hi
    obtain ⟨h1, h2⟩ := ih (i + 1) (by omega)
    obtain ⟨q1, q2, q3⟩ := hf i (by omega)
    rw [q2]
    refine ⟨?_, ?_⟩
    · rw [← or_bit q3]
      exact or_lt h1 q1
    · rw [pop_add _ (lt256 h1 hn) _ (by omega) q3, h2]
      omega
theorem B_of {xik : Int32} {xbc : Int32} {xnc : Int32} {xfc : Int32} {csw : Int32} {cca : Int32} {csi : Int32} {cab : Int32} {cun : Int32} {csg : Int32} {cfa : Nat → Int32} {che : Nat → Int32} {cst : Nat → Int32} {isw : Int32} {ica : Int32} {isi : Int32} {iab : Int32} {iun : Int32} {isg : Int32} {ifa : Nat → Int32} {ihe : Nat → Int32} {ist : Nat → Int32} {jsw : Int32} {jca : Int32} {jsi : Int32} {jab : Int32} {jun : Int32} {jsg : Int32} {jfa : Nat → Int32} {jhe : Nat → Int32} {jst : Nat → Int32} {tby : Nat → Int32} {tln : Int32} {qbi : Nat → Int32} {qhv : Nat → Int32} {qwo : Nat → Int32} {fab : Int64} {fbe : Int64} {w : Nat → Int32} {kp : Nat → Int32} {tx : Nat → Int32} {td : Int32} {rf : Nat → Int32} {fa : Int64} {fb : Int64} (hR : Rel xik xbc xnc xfc csw cca csi cab cun csg cfa che cst isw ica isi iab iun isg ifa ihe ist jsw jca jsi jab jun jsg jfa jhe jst tby tln qbi qhv qwo fab fbe w kp tx td rf fa fb) (a1 : Int32) (a2 : Int32) : ∃ (r0 : Int32) (xbc_z : Int32) (xnc_z : Int32) (xfc_z : Int32) (rf_z : Nat → Int32), X_of a1 a2 xbc xnc xfc csi cab cfa = some (r0, xbc_z, xnc_z, xfc_z) ∧ M_of a1 a2 w rf = some (r0, rf_z) ∧ Rel xik xbc_z xnc_z xfc_z csw cca csi cab cun csg cfa che cst isw ica isi iab iun isg ifa ihe ist jsw jca jsi jab jun jsg jfa jhe jst tby tln qbi qhv qwo fab fbe w kp tx td rf_z fa fb := by
  obtain ⟨hC, hI, hT, hF, hS, hQ⟩ := hR
  obtain ⟨n, u, g, b, sv, cv, K, f, hh, hn, hu, hg, hb, hsv, hcv, rfl, rfl, rfl, rfl, rfl, rfl, w0, w1, w2, w3, w4, w5, hK, hKB, hst, hfu, hf⟩ := id hC
  have hc : GCv n K cfa := fun k j hk hj => (hK k j hk hj).1
  have hm : GMv n K w 0 := fun k j hk hj => (hK k j hk hj).2
  have hb8 := lt256 hb hn
  simp only [Nat.zero_add] at w0 w1 w2 w3 w4 w5
  unfold X_of M_of
  rw [chas_w a1 (by omega), mgoods_w w0 hn, within_w, show M_in a2.toInt64 0 7 = _ from in_w a2 0 7]
  simp only [bd1, ite_10]
  by_cases h1 : 0 ≤ a1 ∧ a1 < nI n
  case neg =>
    rw [if_neg h1, if_neg h1]
    unfold X_of_21 M_of_20
    rw [rx_bad, rm_bad]
    exact ⟨_, _, _, _, _, rfl, rfl, hC, hI, hT, hF, st_bad hS, hQ⟩
  rw [if_pos h1, if_pos h1]
  by_cases h2 : 0 ≤ a2 ∧ a2 ≤ 7
  case neg =>
    rw [if_neg h2, if_neg h2]
    unfold X_of_21 M_of_20
    rw [rx_bad, rm_bad]
    exact ⟨_, _, _, _, _, rfl, rfl, hC, hI, hT, hF, st_bad hS, hQ⟩
  rw [if_pos h2, if_pos h2]
  obtain ⟨k, hk, rfl⟩ := gno (by omega) h1
  obtain ⟨j, hj, rfl⟩ := rng (m := 7) rfl h2
  rw [w5, isIn_N (by omega) (by omega), has_N (by omega) (by omega), ctop_N hc hn (by omega) hKB hk, mfree_N w0 w5 hn (by omega) hk hKB hm]
  simp only [ite_10, bI_ite]
  by_cases h6 : j = 6
  · subst h6
    rw [if_pos (show nI 6 = (6 : Int32) from rfl), if_pos (show (6 : Int32) ≤ nI 6 by decide), if_pos (show nI 6 = (6 : Int32) from rfl)]
    by_cases ht : b.testBit k = true
    · rw [if_pos ht, if_pos ht]
      exact ⟨_, _, _, _, _, rfl, rfl, hC, hI, hT, hF, hS, hQ⟩
    · rw [if_neg ht, if_neg ht]
      exact ⟨_, _, _, _, _, rfl, rfl, hC, hI, hT, hF, hS, hQ⟩
  by_cases h7 : j = 7
  · subst h7
    rw [if_neg (show ¬ nI 7 = (6 : Int32) by decide), if_pos (show nI 7 = (7 : Int32) from rfl), if_pos (show (6 : Int32) ≤ nI 7 by decide), if_neg (show ¬ nI 7 = (6 : Int32) by decide)]
    by_cases ht : topB n b k (fun k => K k 2) (fun i => decide (k < i)) = true
    · rw [if_pos ht, if_pos ht]
      exact ⟨_, _, _, _, _, rfl, rfl, hC, hI, hT, hF, hS, hQ⟩
    · rw [if_neg ht, if_neg ht]
      exact ⟨_, _, _, _, _, rfl, rfl, hC, hI, hT, hF, hS, hQ⟩
  have q6 : ¬ nI j = (6 : Int32) := fun e => h6 ((nI_eq (by omega) (by omega)).mp (show nI j = nI 6 from e))
  have q7 : ¬ nI j = (7 : Int32) := fun e => h7 ((nI_eq (by omega) (by omega)).mp (show nI j = nI 7 from e))
  have q8 : ¬ (6 : Int32) ≤ nI j := nI_ge (a := j) (b := 6) (by omega) (by omega)
  rw [if_neg q6, if_neg q7, if_neg q8, fact_N hc hn hk (by omega), show (6 : Int32) = nI 6 from rfl, show (8 : Int32) = nI 8 from rfl, pk_mul, nI_add, nI_add, inb_t (by omega) (by omega), nI_clamp (by omega)]
  have e := hm k j hk (by omega)
  rw [Nat.zero_add] at e
  rw [e]
  exact ⟨_, _, _, _, _, rfl, rfl, hC, hI, hT, hF, hS, hQ⟩
theorem B_over {xik : Int32} {xbc : Int32} {xnc : Int32} {xfc : Int32} {csw : Int32} {cca : Int32} {csi : Int32} {cab : Int32} {cun : Int32} {csg : Int32} {cfa : Nat → Int32} {che : Nat → Int32} {cst : Nat → Int32} {isw : Int32} {ica : Int32} {isi : Int32} {iab : Int32} {iun : Int32} {isg : Int32} {ifa : Nat → Int32} {ihe : Nat → Int32} {ist : Nat → Int32} {jsw : Int32} {jca : Int32} {jsi : Int32} {jab : Int32} {jun : Int32} {jsg : Int32} {jfa : Nat → Int32} {jhe : Nat → Int32} {jst : Nat → Int32} {tby : Nat → Int32} {tln : Int32} {qbi : Nat → Int32} {qhv : Nat → Int32} {qwo : Nat → Int32} {fab : Int64} {fbe : Int64} {w : Nat → Int32} {kp : Nat → Int32} {tx : Nat → Int32} {td : Int32} {rf : Nat → Int32} {fa : Int64} {fb : Int64} (hR : Rel xik xbc xnc xfc csw cca csi cab cun csg cfa che cst isw ica isi iab iun isg ifa ihe ist jsw jca jsi jab jun jsg jfa jhe jst tby tln qbi qhv qwo fab fbe w kp tx td rf fa fb) (a1 : Int32) : ∃ (r0 : Int32) (xbc_z : Int32) (xnc_z : Int32) (xfc_z : Int32) (cab_z : Int32) (cun_z : Int32) (che_z : Nat → Int32) (w_z : Nat → Int32) (rf_z : Nat → Int32), X_over a1 xbc xnc xfc csi cab cun cfa che = some (r0, xbc_z, xnc_z, xfc_z, cab_z, cun_z, che_z) ∧ M_over a1 w rf = some (r0, w_z, rf_z) ∧ Rel xik xbc_z xnc_z xfc_z csw cca csi cab_z cun_z csg cfa che_z cst isw ica isi iab iun isg ifa ihe ist jsw jca jsi jab jun jsg jfa jhe jst tby tln qbi qhv qwo fab fbe w_z kp tx td rf_z fa fb := by
  obtain ⟨hC, hI, hT, hF, hS, hQ⟩ := hR
  obtain ⟨n, u, g, b, sv, cv, K, f, hh, hn, hu, hg, hb, hsv, hcv, rfl, rfl, rfl, rfl, rfl, rfl, w0, w1, w2, w3, w4, w5, hK, hKB, hst, hfu, hf⟩ := id hC
  have hc : GCv n K cfa := fun k j hk hj => (hK k j hk hj).1
  have hm : GMv n K w 0 := fun k j hk hj => (hK k j hk hj).2
  have hb8 := lt256 hb hn
  simp only [Nat.zero_add] at w0 w1 w2 w3 w4 w5
  unfold X_over M_over
  rw [chas_w a1 (by omega), mgoods_w w0 hn]
  simp only [bd1, ite_10]
  by_cases h1 : 0 ≤ a1 ∧ a1 < nI n
  case neg =>
    rw [if_neg h1, if_neg h1, rx_bad, rm_bad]
    exact ⟨_, _, _, _, _, _, _, _, _, rfl, rfl, hC, hI, hT, hF, st_bad hS, hQ⟩
  rw [if_pos h1, if_pos h1]
  obtain ⟨k, hk, rfl⟩ := gno (by omega) h1
  rw [ctop_N hc hn (by omega) hKB hk, mfree_N w0 w5 hn (by omega) hk hKB hm]
  simp only [bI_ite]
  by_cases ht : topB n b k (fun k => K k 2) (fun i => decide (k < i)) = true
  case neg =>
    rw [if_neg ht, if_neg ht, rx_no, rm_no]
    exact ⟨_, _, _, _, _, _, _, _, _, rfl, rfl, hC, hI, hT, hF, st_no hS, hQ⟩
  rw [if_pos ht, if_pos ht]
  have hbk : b.testBit k = true := by
    unfold topB at ht
    cases e : b.testBit k
    · rw [e] at ht; exact Bool.noConfusion ht
    · rfl
  have hu7 : u ≤ 7 := by
    obtain ⟨c1, c2⟩ := chain_N hn hb hfu (fun i hi => ⟨(hf i hi).2.1, (hf i hi).2.2.2.1, (hf i hi).2.2.2.2⟩) u 0 (by omega)
    have c3 := pop_le _ (lt256 c1 hn)
    have c4 := pop_1 b hb8 k (by omega) hbk
    omega
  obtain ⟨s1, s2⟩ := sub_bit hbk
  have hlt : sdf b (2 ^ k) < 2 ^ n := sdf_lt hb
  rw [w4, if_neg (show ¬ nI u = (8 : Int32) from fun e => absurd ((nI_eq (by omega) (by omega)).mp (show nI u = nI 8 from e)) (by omega))]
  unfold C_heave M_over_81
  rw [chas_N (by omega) (by omega), shl_N (by omega), andn_N]
  simp only [bd1, bnd, ite_10]
  rw [if_pos hk, if_neg (show ¬ (8 : Int32) ≤ nI u from nI_ge (a := u) (b := 8) (by omega) (by omega)), w4, w5, show (72 : Int32) + nI u = nI (72 + u) from nI_add 72 u, inb_t (by omega) (by omega), inb_t (by omega) (by omega), nI_clamp (by omega), nI_clamp (by omega), nI_1]
  simp only [ck, bd3]
  rw [cgood_N hc hn hk hKB]
  have e4 : upd w (72 + u) (nI b) 4 + 1 = nI (u + 1) := by rw [pk_un (by omega), w4, nI_1]
  rw [e4]
  have e5 : upd (upd w (72 + u) (nI b)) 4 (nI (u + 1)) 5 = nI b := by rw [pk_un (by omega), pk_un (by omega), w5]
  rw [e5, andn_N]
  have hm' : GMv n K (upd (upd (upd w (72 + u) (nI b)) 4 (nI (u + 1))) 5 (nI (sdf b (2 ^ k)))) 0 := by
    intro k2 j2 hk2 hj2
    rw [pk_un (by omega), pk_un (by omega), pk_un (by omega)]
    exact hm k2 j2 hk2 hj2
  rw [mmade_N hm' hn hk hKB]
  refine ⟨_, _, _, _, _, _, _, _, _, rfl, rfl, ?_, hI.cong (fun i hi _ => by rw [pk_un (by omega), pk_un (by omega), pk_un (by omega)]), hT, hF, hS, hQ⟩
  refine ⟨n, u + 1, g, sdf b (2 ^ k), sv, cv, K, fun i => if i ≤ u then f i else sdf b (2 ^ k), fun i => if i < u then hh i else k, hn, by omega, hg, hlt, hsv, hcv, rfl, rfl, rfl, rfl, rfl, rfl, ?_, ?_, ?_, ?_, rfl, rfl, fun k2 j2 hk2 hj2 => ⟨hc k2 j2 hk2 hj2, hm' k2 j2 hk2 hj2⟩, hKB, ?_, if_neg (by omega), ?_⟩
  · rw [pk_un (by omega), pk_un (by omega), pk_un (by omega)]; exact w0
  · rw [pk_un (by omega), pk_un (by omega), pk_un (by omega)]; exact w1
  · rw [pk_un (by omega), pk_un (by omega), pk_un (by omega)]; exact w2
  · rw [pk_un (by omega), pk_un (by omega), pk_un (by omega)]; exact w3
  · intro i hi
    rw [pk_un (by omega), pk_un (by omega), pk_un (by omega)]
    exact hst i hi
  · intro i hi
    dsimp only
    by_cases hiu : i = u
    · subst hiu
      rw [if_neg (by omega), if_pos (by omega), if_neg (by omega), pk_us, pk_un (by omega), pk_un (by omega), Nat.zero_add, pk_us, hfu, s1]
      exact ⟨rfl, hk, rfl, rfl, s2⟩
    · rw [if_pos (by omega), if_pos (by omega), if_pos (by omega), pk_un (by omega), pk_un (by omega), pk_un (by omega), pk_un (by omega)]
      exact hf i (by omega)
