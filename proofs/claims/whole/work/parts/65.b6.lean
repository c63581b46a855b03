/-! PURE: what fits the barrel, whose, asks -/
def unf (K : Nat → Nat → Nat) (st : Nat → Int32) (k i : Nat) : Bool := decide (nI (K k 3) < st (3 * i)) || decide (st (3 * i + 1) < nI (K k 4)) || !(decide (st (3 * i + 2) = 3) || decide (st (3 * i + 2) = nI (K k 2)))
theorem sighted_N {i g j : Nat} {st : Nat → Int32} (hi : i < g) (hg : g ≤ 6) (hj : j ≤ 2) : C_sighted (nI i) (nI j) (nI g) st = some (st (3 * i + j)) := by
  unfold C_sighted
  rw [within_w, within_w, show nI g - 1 = nI (g - 1) from pk_sub (a := g) (b := 1) (by omega)]
  simp only [bd1, ite_10]
  rw [if_pos (rng_in (by omega) (by omega)), if_pos (show (0 : Int32) ≤ nI j ∧ nI j ≤ 2 from rng_in (m := 2) hj (by omega)), show (3 : Int32) = nI 3 from rfl, pk_mul, nI_add, inb_t (by omega) (by omega), nI_clamp (by omega)]
  simp only [ck]
  rw [Nat.mul_comm i 3]
theorem fits_L {n g k : Nat} {K : Nat → Nat → Nat} {fc st : Nat → Int32} (hc : GCv n K fc) (hn : n ≤ 8) (hk : k < n) (hg : g ≤ 6) : ∀ d i fuel, i + d = g → d < fuel → anyB (unf K st k) i = false → C_fitsAll_L2 fuel (nI k) (nI i) (nI n) (nI g) fc st = some (bI (!anyB (unf K st k) g)) := by
  intro d
  induction d with
  | zero =>
    intro i fuel hi hf ha
    obtain ⟨q, rfl⟩ := fuel1 hf
    have hi : i = g := by omega
    subst hi
    rw [C_fitsAll_L2, C_fitsAll_2, if_pos (nI_le (by omega) (by omega)), ha]
    rfl
  | succ d ih =>
    intro i fuel hi hf ha
    obtain ⟨q, rfl⟩ := fuel1 hf
    have h := ih (i + 1) q (by omega) (by omega)
    have hig : i < g := by omega
    have s0 : C_sighted (nI i) 0 (nI g) st = some (st (3 * i)) := sighted_N (j := 0) hig hg (by omega)
    have s1 : C_sighted (nI i) 1 (nI g) st = some (st (3 * i + 1)) := sighted_N (j := 1) hig hg (by omega)
    have s2 : C_sighted (nI i) 2 (nI g) st = some (st (3 * i + 2)) := sighted_N (j := 2) hig hg (by omega)
    have f3 : C_fact (nI k) 3 (nI n) fc = some (nI (K k 3)) := fact_N (j := 3) hc hn hk (by omega)
    have f4 : C_fact (nI k) 4 (nI n) fc = some (nI (K k 4)) := fact_N (j := 4) hc hn hk (by omega)
    have f2 : C_fact (nI k) 2 (nI n) fc = some (nI (K k 2)) := fact_N (j := 2) hc hn hk (by omega)
    rw [C_fitsAll_L2, C_fitsAll_2, if_neg (nI_ge (by omega) (by omega)), s0, s1, s2, f3, f4, f2]
    simp only [bd1, bnd]
    rw [nI_1]
    by_cases q1 : nI (K k 3) < st (3 * i)
    · rw [if_pos q1, anyB_t hig (show unf K st k i = true by unfold unf; simp [q1])]
      rfl
    rw [if_neg q1]
    by_cases q2 : st (3 * i + 1) < nI (K k 4)
    · rw [if_pos q2, anyB_t hig (show unf K st k i = true by unfold unf; simp [q2])]
      rfl
    rw [if_neg q2]
    by_cases q3 : st (3 * i + 2) = 3
    · rw [if_pos q3]
      apply h
      rw [anyB, ha]
      unfold unf
      simp [q1, q2, q3]
    rw [if_neg q3]
    by_cases q4 : st (3 * i + 2) = nI (K k 2)
    · rw [if_pos q4]
      apply h
      rw [anyB, ha]
      unfold unf
      simp [q1, q2, q4]
    · rw [if_neg q4, anyB_t hig (show unf K st k i = true by unfold unf; simp [q1, q2, q3, q4])]
      rfl
/-- k fits -/
def ftB (n b g : Nat) (K : Nat → Nat → Nat) (st : Nat → Int32) (k : Nat) : Bool := (gon n b).testBit k && !anyB (unf K st k) g
theorem fitting_L {n b g : Nat} {K : Nat → Nat → Nat} {fc st : Nat → Int32} (hc : GCv n K fc) (hn : n ≤ 8) (hg : g ≤ 6) : ∀ d k fuel, k + d = n → d < fuel → C_fitting_L9 fuel (nI (gon n b)) (nI (mkS (ftB n b g K st) k)) (nI k) (nI n) (nI b) (nI g) fc st = some (nI (mkS (ftB n b g K st) n)) := by
  have g8 := lt256 (gon_lt n b) hn
  intro d
  induction d with
  | zero =>
    intro k fuel hk hf
    obtain ⟨q, rfl⟩ := fuel1 hf
    have hk : k = n := by omega
    subst hk
    rw [C_fitting_L9, C_fitting_9, if_pos (nI_le (by omega) (by omega))]
  | succ d ih =>
    intro k fuel hk hf
    obtain ⟨q, rfl⟩ := fuel1 hf
    have h := ih (k + 1) q (by omega) (by omega)
    have hfa : C_fitsAll (nI k) (nI n) (nI g) fc st = some (bI (!anyB (unf K st k) g)) := fits_L hc hn (by omega) hg g 0 FU (by omega) (by unfold FU; omega) rfl
    rw [C_fitting_L9, C_fitting_9, if_neg (nI_ge (by omega) (by omega)), isIn_N (by omega) (by omega), hfa]
    simp only [bd1, bnd, ite_10, bI_ite]
    rw [shl_N (by omega), or_N, nI_1]
    rw [mkS] at h
    unfold ftB at h ⊢
    by_cases r : (gon n b).testBit k = true
    · rw [if_pos r]
      rw [r, Bool.true_and] at h
      by_cases s : (!anyB (unf K st k) g) = true
      · rw [if_pos s]
        rw [if_pos s] at h
        exact h
      · rw [if_neg s]
        rw [if_neg s] at h
        exact h
    · rw [if_neg r]
      rw [if_neg (by simp [r])] at h
      exact h
theorem fitting_N {n b g : Nat} {K : Nat → Nat → Nat} {fc st : Nat → Int32} (hc : GCv n K fc) (hn : n ≤ 8) (hg : g ≤ 6) : C_fitting (nI n) (nI b) (nI g) fc st = some (nI (mkS (ftB n b g K st) n)) := by
  unfold C_fitting
  rw [cgone_N hn]
  exact fitting_L hc hn hg n 0 FU (by omega) (by unfold FU; omega)
/-- what is left after k goods and i sightings -/
def lfB (n b g : Nat) (K : Nat → Nat → Nat) (st : Nat → Int32) (k i j : Nat) : Bool := (gon n b).testBit j && (if j < k then !anyB (unf K st j) g else if j = k then !anyB (unf K st k) i else true)
theorem mkS_255 : ∀ a, a < 256 → nI a &&& 255 = nI a := by decide +kernel
theorem barrel_L19 {n b g k : Nat} {K : Nat → Nat → Nat} {w st : Nat → Int32} {rc : Int32 → Int32 → (Nat → Int32) → Option Int32} (hm : GMv n K w 0) (h3 : w 3 = nI g) (hst : ∀ i, i < 3 * g → st i = w (0 + (54 + i))) (hn : n ≤ 8) (hk : k < n) (hg : g ≤ 6) : ∀ d i fuel, i + d = g → d < fuel → M_barrel_L19 rc fuel (nI (mkS (lfB n b g K st k i) 8)) (nI k) (nI i) w = rc (nI (mkS (lfB n b g K st (k + 1) 0) 8)) (nI (k + 1)) w := by
  intro d
  induction d with
  | zero =>
    intro i fuel hi hf
    obtain ⟨q, rfl⟩ := fuel1 hf
    have hi : i = g := by omega
    subst hi
    rw [M_barrel_L19, M_barrel_19, h3, if_pos (nI_le (by omega) (by omega))]
    simp only [bnd]
    rw [nI_1]
    congr 2
    apply mkS_cong
    intro j hj
    unfold lfB
    by_cases q1 : j < k
    · rw [if_pos q1, if_pos (by omega)]
    · rw [if_neg q1]
      by_cases q2 : j = k
      · subst q2
        rw [if_pos rfl, if_pos (by omega)]
      · rw [if_neg q2, if_neg (by omega)]
        by_cases q3 : j = k + 1
        · rw [if_pos q3]; rfl
        · rw [if_neg q3]
  | succ d ih =>
    intro i fuel hi hf
    obtain ⟨q, rfl⟩ := fuel1 hf
    have h := ih (i + 1) q (by omega) (by omega)
    have hig : i < g := by omega
    have s : ∀ y0 : Bool, y0 = !unf K st k i → M_barrel_116 rc (M_barrel_L19 rc q) (nI (mkS (lfB n b g K st k i) 8)) (nI k) (nI i) (bI y0) w = rc (nI (mkS (lfB n b g K st (k + 1) 0) 8)) (nI (k + 1)) w := by
      intro y0 hy
      rw [← h]
      unfold M_barrel_116
      simp only [bnd, bI_ite]
      rw [shl_N (by omega), andn_N, mkS_255 _ (mkS_lt _ 8), nI_1]
      cases hu : unf K st k i
      · rw [if_pos (by rw [hy, hu]; rfl)]
        congr 2
        apply mkS_cong
        intro j hj
        unfold lfB
        by_cases q2 : j = k
        · subst q2
          rw [if_neg (by omega), if_pos rfl, if_neg (by omega), if_pos rfl, anyB, hu, Bool.or_false]
        · by_cases q1 : j < k
          · rw [if_pos q1, if_pos q1]
          · rw [if_neg q1, if_neg q2, if_neg q1, if_neg q2]
      · rw [if_neg (by rw [hy, hu]; decide)]
        congr 2
        apply mkS_eq
        intro j
        rw [sdf_bit, mkS_bit, Nat.testBit_two_pow]
        unfold lfB
        by_cases q2 : j = k
        · subst q2
          rw [if_neg (by omega), if_pos rfl, if_neg (by omega), if_pos rfl, anyB, hu]
          simp
        · have q2' : ¬ k = j := fun e => q2 e.symm
          by_cases q1 : j < k
          · rw [if_pos q1, if_pos q1]; simp [q2']
          · rw [if_neg q1, if_neg q2, if_neg q1, if_neg q2]; simp [q2']
    have e3 : w (30 + k) = nI (K k 3) := by have := hm k 3 hk (by omega); rwa [show 0 + (6 + 8 * 3 + k) = 30 + k by omega] at this
    have e4 : w (38 + k) = nI (K k 4) := by have := hm k 4 hk (by omega); rwa [show 0 + (6 + 8 * 4 + k) = 38 + k by omega] at this
    have e2 : w (22 + k) = nI (K k 2) := by have := hm k 2 hk (by omega); rwa [show 0 + (6 + 8 * 2 + k) = 22 + k by omega] at this
    have t0 : w (54 + 3 * i) = st (3 * i) := by have := hst (3 * i) (by omega); rw [this, Nat.zero_add]
    have t1 : w (54 + 3 * i + 1) = st (3 * i + 1) := by have := hst (3 * i + 1) (by omega); rw [this, Nat.zero_add, Nat.add_assoc]
    have t2 : w (54 + 3 * i + 2) = st (3 * i + 2) := by have := hst (3 * i + 2) (by omega); rw [this, Nat.zero_add, Nat.add_assoc]
    rw [M_barrel_L19, M_barrel_19, h3, if_neg (nI_ge (by omega) (by omega))]
    simp only [bnd]
    rw [show (54 : Int32) + 3 * nI i = nI (54 + 3 * i) by rw [show (3 : Int32) = nI 3 from rfl, pk_mul]; exact nI_add 54 _, show nI (54 + 3 * i) + 1 = nI (54 + 3 * i + 1) from nI_add _ 1, show nI (54 + 3 * i) + 2 = nI (54 + 3 * i + 2) from nI_add _ 2, show (30 : Int32) + nI k = nI (30 + k) from nI_add 30 k, show (38 : Int32) + nI k = nI (38 + k) from nI_add 38 k, show (22 : Int32) + nI k = nI (22 + k) from nI_add 22 k]
    rw [inb_t (i := 54 + 3 * i) (by omega) (by omega), inb_t (i := 54 + 3 * i + 1) (by omega) (by omega), inb_t (i := 54 + 3 * i + 2) (by omega) (by omega), inb_t (i := 30 + k) (by omega) (by omega), inb_t (i := 38 + k) (by omega) (by omega), inb_t (i := 22 + k) (by omega) (by omega)]
    rw [nI_clamp (n := 54 + 3 * i) (by omega), nI_clamp (n := 54 + 3 * i + 1) (by omega), nI_clamp (n := 54 + 3 * i + 2) (by omega), nI_clamp (n := 30 + k) (by omega), nI_clamp (n := 38 + k) (by omega), nI_clamp (n := 22 + k) (by omega), e3, e4, e2, t0, t1, t2]
    simp only [ck]
    unfold M_barrel_111 M_barrel_115
    by_cases q1 : nI (K k 3) < st (3 * i)
    · rw [if_pos q1]
      exact s false (by unfold unf; simp [q1])
    rw [if_neg q1]
    by_cases q2 : st (3 * i + 1) < nI (K k 4)
    · rw [if_pos q2]
      exact s false (by unfold unf; simp [q2])
    rw [if_neg q2]
    by_cases q3 : st (3 * i + 2) = 3
    · rw [if_pos q3]
      exact s true (by unfold unf; simp [q1, q2, q3])
    rw [if_neg q3]
    by_cases q4 : st (3 * i + 2) = nI (K k 2)
    · rw [if_pos q4]
      exact s true (by unfold unf; simp [q1, q2, q4])
    · rw [if_neg q4]
      exact s false (by unfold unf; simp [q1, q2, q3, q4])
theorem barrel_L7 {n b g : Nat} {K : Nat → Nat → Nat} {w st : Nat → Int32} (hm : GMv n K w 0) (h0 : w 0 = nI n) (h3 : w 3 = nI g) (hst : ∀ i, i < 3 * g → st i = w (0 + (54 + i))) (hn : n ≤ 8) (hg : g ≤ 6) : ∀ d k fuel, k + d = n → d < fuel → M_barrel_L7 fuel (nI (mkS (lfB n b g K st k 0) 8)) (nI k) w = some (nI (mkS (ftB n b g K st) n)) := by
  intro d
  induction d with
  | zero =>
    intro k fuel hk hf
    obtain ⟨q, rfl⟩ := fuel1 hf
    have hk : k = n := by omega
    subst hk
    rw [M_barrel_L7, M_barrel_7, h0, if_pos (nI_le (by omega) (by omega))]
    congr 2
    apply mkS_eq
    intro j
    rw [mkS_bit]
    unfold lfB ftB
    rw [gon_bit]
    by_cases q : j < k
    · rw [if_pos q]
      have : j < 8 := by omega
      simp [q, this]
    · simp [q]
  | succ d ih =>
    intro k fuel hk hf
    obtain ⟨q, rfl⟩ := fuel1 hf
    have h := ih (k + 1) q (by omega) (by omega)
    rw [M_barrel_L7, M_barrel_7, h0, if_neg (nI_ge (by omega) (by omega))]
    rw [show (0 : Int32) = nI 0 from rfl, barrel_L19 hm h3 hst hn (by omega) hg g 0 FU (by omega) (by unfold FU; omega)]
    exact h
theorem barrel_N {n b g : Nat} {K : Nat → Nat → Nat} {w st : Nat → Int32} (hm : GMv n K w 0) (h0 : w 0 = nI n) (h3 : w 3 = nI g) (h5 : w 5 = nI b) (hst : ∀ i, i < 3 * g → st i = w (0 + (54 + i))) (hn : n ≤ 8) (hg : g ≤ 6) : M_barrel w = some (nI (mkS (ftB n b g K st) n)) := by
  unfold M_barrel
  rw [mthr_N hn h0 h5]
  have h := barrel_L7 (b := b) hm h0 h3 hst hn hg n 0 FU (by omega) (by unfold FU; omega)
  rw [← h]
  simp only [bd1]
  congr 2
  apply mkS_eq
  intro j
  unfold lfB
  rw [gon_bit, if_neg (by omega)]
  by_cases q : j < n
  · have : j < 8 := by omega
    by_cases r : j = 0
    · rw [if_pos r]; simp [q, this, anyB]
    · rw [if_neg r]; simp [q, this]
  · simp [q]
theorem B_barrel {xik : Int32} {xbc : Int32} {xnc : Int32} {xfc : Int32} {csw : Int32} {cca : Int32} {csi : Int32} {cab : Int32} {cun : Int32} {csg : Int32} {cfa : Nat → Int32} {che : Nat → Int32} {cst : Nat → Int32} {isw : Int32} {ica : Int32} {isi : Int32} {iab : Int32} {iun : Int32} {isg : Int32} {ifa : Nat → Int32} {ihe : Nat → Int32} {ist : Nat → Int32} {jsw : Int32} {jca : Int32} {jsi : Int32} {jab : Int32} {jun : Int32} {jsg : Int32} {jfa : Nat → Int32} {jhe : Nat → Int32} {jst : Nat → Int32} {tby : Nat → Int32} {tln : Int32} {qbi : Nat → Int32} {qhv : Nat → Int32} {qwo : Nat → Int32} {fab : Int64} {fbe : Int64} {w : Nat → Int32} {kp : Nat → Int32} {tx : Nat → Int32} {td : Int32} {rf : Nat → Int32} {fa : Int64} {fb : Int64} (hR : Rel xik xbc xnc xfc csw cca csi cab cun csg cfa che cst isw ica isi iab iun isg ifa ihe ist jsw jca jsi jab jun jsg jfa jhe jst tby tln qbi qhv qwo fab fbe w kp tx td rf fa fb) : ∃ (r0 : Int32), X_barrel csi cab csg cfa cst = some r0 ∧ M_barrel w = some r0 ∧ Rel xik xbc xnc xfc csw cca csi cab cun csg cfa che cst isw ica isi iab iun isg ifa ihe ist jsw jca jsi jab jun jsg jfa jhe jst tby tln qbi qhv qwo fab fbe w kp tx td rf fa fb := by
  obtain ⟨hC, hI, hT, hF, hS, hQ⟩ := hR
  obtain ⟨n, u, g, b, sv, cv, K, f, hh, hn, hu, hg, hb, hsv, hcv, rfl, rfl, rfl, rfl, rfl, rfl, w0, w1, w2, w3, w4, w5, hK, hKB, hst, hfu, hf⟩ := id hC
  have hc : GCv n K cfa := fun k j hk hj => (hK k j hk hj).1
  have hm : GMv n K w 0 := fun k j hk hj => (hK k j hk hj).2
  simp only [Nat.zero_add] at w0 w1 w2 w3 w4 w5
  unfold X_barrel
  rw [fitting_N hc hn hg]
  exact ⟨_, rfl, barrel_N hm w0 w3 w5 hst hn hg, hC, hI, hT, hF, hS, hQ⟩
/-- the owners of a set -/
def whS (S : Nat) (K : Nat → Nat → Nat) : Nat → Nat
  | 0 => 0
  | k + 1 => if S.testBit k = true then whS S K k ||| 2 ^ K k 1 else whS S K k
theorem xwhose_L {n S : Nat} {K : Nat → Nat → Nat} {fc st : Nat → Int32} {cab csg : Int32} (hc : GCv n K fc) (hKB : KB n K) (hn : n ≤ 8) (hS : S < 2 ^ 31) : ∀ d k fuel, k + d = n → d < fuel → X_whose_L12 fuel (nI S) (nI (whS S K k)) (nI k) (nI n) cab csg fc st = some (nI (whS S K n)) := by
  intro d
  induction d with
  | zero =>
    intro k fuel hk hf
    obtain ⟨q, rfl⟩ := fuel1 hf
    have hk : k = n := by omega
    subst hk
    rw [X_whose_L12, X_whose_12, if_pos (nI_le (by omega) (by omega))]
  | succ d ih =>
    intro k fuel hk hf
    obtain ⟨q, rfl⟩ := fuel1 hf
    have h := ih (k + 1) q (by omega) (by omega)
    have b1 := (hKB k (by omega)).2.1
    have f1 : C_fact (nI k) 1 (nI n) fc = some (nI (K k 1)) := fact_N (j := 1) hc hn (by omega) (by omega)
    rw [X_whose_L12, X_whose_12, if_neg (nI_ge (by omega) (by omega)), isIn_N hS (by omega), f1]
    simp only [bd1, bnd, ite_10]
    rw [shl_N (by omega), or_N, nI_1]
    rw [whS] at h
    by_cases r : S.testBit k = true
    · rw [if_pos r]; rw [if_pos r] at h; exact h
    · rw [if_neg r]; rw [if_neg r] at h; exact h
theorem mwhose_L {n S : Nat} {K : Nat → Nat → Nat} {w : Nat → Int32} (hm : GMv n K w 0) (h0 : w 0 = nI n) (hKB : KB n K) (hn : n ≤ 8) (hS : S < 2 ^ 31) : ∀ d k fuel, k + d = n → d < fuel → M_whose_L9 fuel (nI (whS S K k)) (nI S) (nI k) w = some (nI (whS S K n)) := by
  intro d
  induction d with
  | zero =>
    intro k fuel hk hf
    obtain ⟨q, rfl⟩ := fuel1 hf
    have hk : k = n := by omega
    subst hk
    rw [M_whose_L9, M_whose_9, h0, if_pos (nI_le (by omega) (by omega))]
  | succ d ih =>
    intro k fuel hk hf
    obtain ⟨q, rfl⟩ := fuel1 hf
    have h := ih (k + 1) q (by omega) (by omega)
    have b1 := (hKB k (by omega)).2.1
    have e1 : w (14 + k) = nI (K k 1) := by have := hm k 1 (by omega) (by omega); rwa [show 0 + (6 + 8 * 1 + k) = 14 + k by omega] at this
    rw [M_whose_L9, M_whose_9, h0, if_neg (nI_ge (by omega) (by omega)), has_N hS (by omega), show (14 : Int32) + nI k = nI (14 + k) from nI_add 14 k, inb_t (by omega) (by omega), nI_clamp (by omega), e1]
    simp only [bd1, bnd, ite_10, ck]
    rw [shl_N (by omega), or_N, nI_1, show nI (whS S K k) ||| 0 = nI (whS S K k) from Int32.or_zero]
    rw [whS] at h
    by_cases r : S.testBit k = true
    · rw [if_pos r]; rw [if_pos r] at h; exact h
    · rw [if_neg r]; rw [if_neg r] at h; exact h
theorem B_whose {xik : Int32} {xbc : Int32} {xnc : Int32} {xfc : Int32} {csw : Int32} {cca : Int32} {csi : Int32} {cab : Int32} {cun : Int32} {csg : Int32} {cfa : Nat → Int32} {che : Nat → Int32} {cst : Nat → Int32} {isw : Int32} {ica : Int32} {isi : Int32} {iab : Int32} {iun : Int32} {isg : Int32} {ifa : Nat → Int32} {ihe : Nat → Int32} {ist : Nat → Int32} {jsw : Int32} {jca : Int32} {jsi : Int32} {jab : Int32} {jun : Int32} {jsg : Int32} {jfa : Nat → Int32} {jhe : Nat → Int32} {jst : Nat → Int32} {tby : Nat → Int32} {tln : Int32} {qbi : Nat → Int32} {qhv : Nat → Int32} {qwo : Nat → Int32} {fab : Int64} {fbe : Int64} {w : Nat → Int32} {kp : Nat → Int32} {tx : Nat → Int32} {td : Int32} {rf : Nat → Int32} {fa : Int64} {fb : Int64} (hR : Rel xik xbc xnc xfc csw cca csi cab cun csg cfa che cst isw ica isi iab iun isg ifa ihe ist jsw jca jsi jab jun jsg jfa jhe jst tby tln qbi qhv qwo fab fbe w kp tx td rf fa fb) : ∃ (r0 : Int32), X_whose csi cab csg cfa cst = some r0 ∧ M_whose w = some r0 ∧ Rel xik xbc xnc xfc csw cca csi cab cun csg cfa che cst isw ica isi iab iun isg ifa ihe ist jsw jca jsi jab jun jsg jfa jhe jst tby tln qbi qhv qwo fab fbe w kp tx td rf fa fb := by
  obtain ⟨hC, hI, hT, hF, hS, hQ⟩ := hR
  obtain ⟨n, u, g, b, sv, cv, K, f, hh, hn, hu, hg, hb, hsv, hcv, rfl, rfl, rfl, rfl, rfl, rfl, w0, w1, w2, w3, w4, w5, hK, hKB, hst, hfu, hf⟩ := id hC
  have hc : GCv n K cfa := fun k j hk hj => (hK k j hk hj).1
  have hm : GMv n K w 0 := fun k j hk hj => (hK k j hk hj).2
  simp only [Nat.zero_add] at w0 w1 w2 w3 w4 w5
  have h8 := lt256 (mkS_lt (ftB n b g K cst) n) hn
  unfold X_whose M_whose
  rw [fitting_N hc hn hg, barrel_N hm w0 w3 w5 hst hn hg]
  exact ⟨_, xwhose_L hc hKB hn (by omega) n 0 FU (by omega) (by unfold FU; omega), mwhose_L hm w0 hKB hn (by omega) n 0 FU (by omega) (by unfold FU; omega), hC, hI, hT, hF, hS, hQ⟩
/-- how many of a set have v as their fact j -/
def cw (S j : Nat) (v : Int32) (K : Nat → Nat → Nat) : Nat → Nat := sm (fun k => if S.testBit k = true ∧ nI (K k j) = v then 1 else 0)
theorem cw_le (S j : Nat) (v : Int32) (K : Nat → Nat → Nat) (n : Nat) : cw S j v K n ≤ n := by
  have := sm_le (f := fun k => if S.testBit k = true ∧ nI (K k j) = v then 1 else 0) (c := 1) (n := n) (fun k _ => by split <;> omega)
  unfold cw
  omega
theorem count_L {n S j : Nat} {v : Int32} {K : Nat → Nat → Nat} {fc : Nat → Int32} (hc : GCv n K fc) (hn : n ≤ 8) (hj : j < 6) (hS : S < 2 ^ 31) : ∀ d k fuel, k + d = n → d < fuel → C_countWith_L6 fuel (nI S) (nI j) v (nI (cw S j v K k)) (nI k) (nI n) fc = some (nI (cw S j v K n)) := by
  intro d
  induction d with
  | zero =>
    intro k fuel hk hf
    obtain ⟨q, rfl⟩ := fuel1 hf
    have hk : k = n := by omega
    subst hk
    rw [C_countWith_L6, C_countWith_6, if_pos (nI_le (by omega) (by omega))]
  | succ d ih =>
    intro k fuel hk hf
    obtain ⟨q, rfl⟩ := fuel1 hf
    have h := ih (k + 1) q (by omega) (by omega)
    rw [C_countWith_L6, C_countWith_6, if_neg (nI_ge (by omega) (by omega)), isIn_N hS (by omega), fact_N hc hn (by omega) hj]
    simp only [bd1, bnd, ite_10]
    rw [nI_1, nI_1]
    have hs : cw S j v K (k + 1) = cw S j v K k + (if S.testBit k = true ∧ nI (K k j) = v then 1 else 0) := rfl
    by_cases r : S.testBit k = true
    · rw [if_pos r]
      by_cases e : nI (K k j) = v
      · rw [if_pos e]; rw [hs, if_pos ⟨r, e⟩] at h; exact h
      · rw [if_neg e]; rw [hs, if_neg (fun q => e q.2)] at h; exact h
    · rw [if_neg r]; rw [hs, if_neg (fun q => r q.1)] at h; exact h
theorem bd1_s {α β : Type} {a : α} {f : α → Option β} : bd1 (some a) f = f a := rfl
theorem count_N {n S j : Nat} (v : Int32) {K : Nat → Nat → Nat} {fc : Nat → Int32} (hc : GCv n K fc) (hn : n ≤ 8) (hj : j < 6) (hS : S < 2 ^ 31) : C_countWith (nI S) (nI j) v (nI n) fc = some (nI (cw S j v K n)) := by
  have h := count_L (v := v) hc hn hj hS n 0 FU (by omega) (by unfold FU; omega)
  rw [show cw S j v K 0 = 0 from rfl] at h
  unfold C_countWith
  rw [show (0 : Int32) = nI 0 from rfl]
  exact h
theorem mcount_L {n S : Nat} {q : Nat} {x2 x3 : Int32} {K : Nat → Nat → Nat} {w : Nat → Int32} {rc : Int32 → Int32 → Int32 → Int32 → (Nat → Int32) → Option Int32} (hm : GMv n K w 0) (h0 : w 0 = nI n) (hn : n ≤ 8) (hS : S < 256) (hq : q < 9) {c : Nat → Nat} (hcc : c = if 3 ≤ q then cw S 0 (nI q - 3) K else cw S 2 (nI q) K) : ∀ d k fuel, k + d = n → d < fuel → M_asks_L30 rc fuel (nI S) x2 x3 (nI q) (nI (c k)) (nI k) w = M_asks_147 rc (nI S) x2 x3 (nI q) (if nI (c n) < nI (pop S) - nI (c n) then nI (pop S) - nI (c n) else nI (c n)) w := by
  intro d
  induction d with
  | zero =>
    intro k fuel hk hf
    obtain ⟨q, rfl⟩ := fuel1 hf
    have hk : k = n := by omega
    subst hk
    rw [M_asks_L30, M_asks_30, h0, if_pos (nI_le (by omega) (by omega)), ones_N _ hS]
    simp only [bd1, bnd]
    by_cases r : nI (c k) < nI (pop S) - nI (c k)
    · rw [if_pos r, if_pos (Int32.le_of_lt r)]
    · rw [if_neg r]
      by_cases r2 : nI (c k) ≤ nI (pop S) - nI (c k)
      · have e : nI (pop S) - nI (c k) = nI (c k) := Int32.le_antisymm (Int32.not_lt.mp r) r2
        rw [if_pos r2, e]
      · rw [if_neg r2]
  | succ d ih =>
    intro k fuel hk hf
    obtain ⟨g, rfl⟩ := fuel1 hf
    have h := ih (k + 1) g (by omega) (by omega)
    have e0 : w (6 + k) = nI (K k 0) := by have := hm k 0 (by omega) (by omega); rwa [show 0 + (6 + 8 * 0 + k) = 6 + k by omega] at this
    have e2 : w (22 + k) = nI (K k 2) := by have := hm k 2 (by omega) (by omega); rwa [show 0 + (6 + 8 * 2 + k) = 22 + k by omega] at this
    have st : ∀ y : Bool, c (k + 1) = c k + (if S.testBit k = true ∧ y = true then 1 else 0) → M_asks_92 rc (M_asks_L30 rc g) (nI S) x2 x3 (nI q) (nI (c k)) (nI k) (bI y) w = M_asks_147 rc (nI S) x2 x3 (nI q) (if nI (c n) < nI (pop S) - nI (c n) then nI (pop S) - nI (c n) else nI (c n)) w := by
      intro y hy
      rw [← h]
      unfold M_asks_92
      rw [has_N (by omega) (by omega)]
      simp only [bd1, bnd, ite_10, bI_ite, Int32.add_zero]
      rw [nI_1, nI_1]
      by_cases r : S.testBit k = true
      · rw [if_pos r]
        cases y
        · rw [if_neg (by decide)]; rw [if_neg (by simp)] at hy; rw [show c (k + 1) = c k from hy]
        · rw [if_pos rfl]; rw [if_pos ⟨r, rfl⟩] at hy; rw [hy]
      · rw [if_neg r]; rw [if_neg (fun q => r q.1)] at hy; rw [show c (k + 1) = c k from hy]
    rw [M_asks_L30, M_asks_30, h0, if_neg (nI_ge (by omega) (by omega)), show (6 : Int32) + nI k = nI (6 + k) from nI_add 6 k, show (22 : Int32) + nI k = nI (22 + k) from nI_add 22 k, inb_t (by omega) (by omega), inb_t (by omega) (by omega), nI_clamp (by omega), nI_clamp (by omega), e0, e2]
    simp only [ck]
    by_cases q3 : 3 ≤ q
    · rw [if_pos (show (3 : Int32) ≤ nI q from nI_le (a := 3) (b := q) q3 (by omega))]
      rw [if_pos q3] at hcc
      have hs : c (k + 1) = c k + (if S.testBit k = true ∧ nI (K k 0) = nI q - 3 then 1 else 0) := by rw [hcc]; rfl
      by_cases e : nI (K k 0) = nI q - 3
      · rw [if_pos e]
        exact st true (by rw [hs]; simp [e])
      · rw [if_neg e]
        exact st false (by rw [hs]; simp [e])
    · rw [if_neg (show ¬ (3 : Int32) ≤ nI q from nI_ge (a := q) (b := 3) (by omega) (by omega))]
      rw [if_neg q3] at hcc
      have hs : c (k + 1) = c k + (if S.testBit k = true ∧ nI (K k 2) = nI q then 1 else 0) := by rw [hcc]; rfl
      by_cases e : nI (K k 2) = nI q
      · rw [if_pos e]
        exact st true (by rw [hs]; simp [e])
      · rw [if_neg e]
        exact st false (by rw [hs]; simp [e])
theorem not_m9 {m : Int32} (h : m ≤ 8) : ¬ (9 : Int32) ≤ m := fun e => absurd (Int32.le_trans e h) (by decide)
theorem not_mM {m : Int32} (h : m ≤ 8) : ¬ (1000000 : Int32) ≤ m := by
  intro e
  have e2 := Int32.le_trans e h
  rw [Int32.le_iff_toInt_le] at e2
  have h8 : (8 : Int32).toInt = 8 := rfl
  have hM : (1000000 : Int32).toInt = 1000000 := rfl
  omega
theorem asks_L {n S : Nat} {K : Nat → Nat → Nat} {w fc st : Nat → Int32} {cab csg : Int32} (hc : GCv n K fc) (hm : GMv n K w 0) (h0 : w 0 = nI n) (hn : n ≤ 8) (hS : S < 256) (hS0 : S ≠ 0) : ∀ d q fuel, q + d = 9 → d < fuel → ∀ x2 x3 y3 : Int32, (x3 = y3 ∨ ((∀ m : Int32, m ≤ 8 → ¬ x3 ≤ m) ∧ (∀ m : Int32, m ≤ 8 → ¬ y3 ≤ m))) → ∃ r, X_asks_L22 fuel (nI S) x2 x3 (nI q) (nI n) cab csg fc st = some r ∧ M_asks_L13 fuel (nI S) x2 y3 (nI q) w = some r := by
  intro d
  induction d with
  | zero =>
    intro q fuel hq hf x2 x3 y3 h3
    obtain ⟨g, rfl⟩ := fuel1 hf
    have hq : q = 9 := by omega
    subst hq
    rw [X_asks_L22, X_asks_22, M_asks_L13, M_asks_13, if_pos (by decide), if_pos (by decide)]
    exact ⟨_, rfl, rfl⟩
  | succ d ih =>
    intro q fuel hq hf x2 x3 y3 h3
    obtain ⟨g, rfl⟩ := fuel1 hf
    have h := ih (q + 1) g (by omega) (by omega)
    have hq9 : ¬ (9 : Int32) ≤ nI q := nI_ge (a := q) (b := 9) (by omega) (by omega)
    have hz : ¬ nI S = 0 := fun e => hS0 ((nI_eq (by omega) (by omega)).mp (show nI S = nI 0 from e))
    obtain ⟨c, hcd⟩ : ∃ c : Nat → Nat, c = if 3 ≤ q then cw S 0 (nI q - 3) K else cw S 2 (nI q) K := ⟨_, rfl⟩
    have hc8 : c n ≤ 8 := by
      rw [hcd]
      by_cases q3 : 3 ≤ q
      · rw [if_pos q3]; have := cw_le S 0 (nI q - 3) K n; omega
      · rw [if_neg q3]; have := cw_le S 2 (nI q) K n; omega
    have hc0 : c 0 = 0 := by
      rw [hcd]
      by_cases q3 : 3 ≤ q
      · rw [if_pos q3]; rfl
      · rw [if_neg q3]; rfl
    have hM := mcount_L (rc := M_asks_L13 g) (x2 := x2) (x3 := y3) hm h0 hn hS (show q < 9 by omega) (c := c) hcd n 0 FU (by omega) (by unfold FU; omega)
    rw [hc0] at hM
    have hX : X_asks_L22 (g + 1) (nI S) x2 x3 (nI q) (nI n) cab csg fc st = X_asks_62 (X_asks_L22 g) (nI S) x2 x3 (nI q) (nI (c n)) (nI n) cab csg fc st := by
      rw [X_asks_L22, X_asks_22, if_neg hq9]
      by_cases q3 : 3 ≤ q
      · rw [if_pos (show (3 : Int32) ≤ nI q from nI_le (a := 3) (b := q) q3 (by omega))]
        have e : c = cw S 0 (nI q - 3) K := hcd.trans (if_pos q3)
        rw [show (0 : Int32) = nI 0 from rfl, count_N (nI q - 3) hc hn (by omega) (by omega), e, bd1_s]
      · rw [if_neg (show ¬ (3 : Int32) ≤ nI q from nI_ge (a := q) (b := 3) (by omega) (by omega))]
        have e : c = cw S 2 (nI q) K := hcd.trans (if_neg q3)
        rw [show (2 : Int32) = nI 2 from rfl, count_N (nI q) hc hn (by omega) (by omega), e, bd1_s]
    have hMM : M_asks_L13 (g + 1) (nI S) x2 y3 (nI q) w = M_asks_147 (M_asks_L13 g) (nI S) x2 y3 (nI q) (if nI (c n) < nI (pop S) - nI (c n) then nI (pop S) - nI (c n) else nI (c n)) w := by
      rw [M_asks_L13, M_asks_13, if_neg hq9, if_neg hz, show (0 : Int32) = nI 0 from rfl]
      exact hM
    rw [hX, hMM]
    have p8 := pop_le S hS
    have hm8 : (if nI (c n) < nI (pop S) - nI (c n) then nI (pop S) - nI (c n) else nI (c n)) ≤ 8 := by
      have e8 : (8 : Int32).toInt = 8 := rfl
      rw [Int32.le_iff_toInt_le, e8]
      split
      · rw [pk_sub_toInt (by omega) (by omega)]; omega
      · rw [nI_toInt (by omega)]; omega
    generalize hmm : (if nI (c n) < nI (pop S) - nI (c n) then nI (pop S) - nI (c n) else nI (c n)) = m at hm8
    unfold X_asks_62 M_asks_147 M_asks_161
    rw [bitc_N _ hS]
    simp only [bd1, bnd]
    rw [hmm, nI_1]
    rcases h3 with rfl | ⟨k9, kM⟩
    · by_cases r : x3 ≤ m
      · rw [if_pos r, if_pos r, if_pos r]
        exact h x2 x3 x3 (Or.inl rfl)
      · rw [if_neg r, if_neg r, if_neg r]
        exact h (nI q) m m (Or.inl rfl)
    · rw [if_neg (k9 m hm8), if_neg (kM m hm8), if_neg (kM m hm8)]
      exact h (nI q) m m (Or.inl rfl)
theorem B_asks {xik : Int32} {xbc : Int32} {xnc : Int32} {xfc : Int32} {csw : Int32} {cca : Int32} {csi : Int32} {cab : Int32} {cun : Int32} {csg : Int32} {cfa : Nat → Int32} {che : Nat → Int32} {cst : Nat → Int32} {isw : Int32} {ica : Int32} {isi : Int32} {iab : Int32} {iun : Int32} {isg : Int32} {ifa : Nat → Int32} {ihe : Nat → Int32} {ist : Nat → Int32} {jsw : Int32} {jca : Int32} {jsi : Int32} {jab : Int32} {jun : Int32} {jsg : Int32} {jfa : Nat → Int32} {jhe : Nat → Int32} {jst : Nat → Int32} {tby : Nat → Int32} {tln : Int32} {qbi : Nat → Int32} {qhv : Nat → Int32} {qwo : Nat → Int32} {fab : Int64} {fbe : Int64} {w : Nat → Int32} {kp : Nat → Int32} {tx : Nat → Int32} {td : Int32} {rf : Nat → Int32} {fa : Int64} {fb : Int64} (hR : Rel xik xbc xnc xfc csw cca csi cab cun csg cfa che cst isw ica isi iab iun isg ifa ihe ist jsw jca jsi jab jun jsg jfa jhe jst tby tln qbi qhv qwo fab fbe w kp tx td rf fa fb) : ∃ (r0 : Int32), X_asks csi cab csg cfa cst = some r0 ∧ M_asks w = some r0 ∧ Rel xik xbc xnc xfc csw cca csi cab cun csg cfa che cst isw ica isi iab iun isg ifa ihe ist jsw jca jsi jab jun jsg jfa jhe jst tby tln qbi qhv qwo fab fbe w kp tx td rf fa fb := by
  obtain ⟨hC, hI, hT, hF, hS, hQ⟩ := hR
  obtain ⟨n, u, g, b, sv, cv, K, f, hh, hn, hu, hg, hb, hsv, hcv, rfl, rfl, rfl, rfl, rfl, rfl, w0, w1, w2, w3, w4, w5, hK, hKB, hst, hfu, hf⟩ := id hC
  have hc : GCv n K cfa := fun k j hk hj => (hK k j hk hj).1
  have hm : GMv n K w 0 := fun k j hk hj => (hK k j hk hj).2
  simp only [Nat.zero_add] at w0 w1 w2 w3 w4 w5
  have h8 := lt256 (mkS_lt (ftB n b g K cst) n) hn
  unfold X_asks M_asks
  rw [fitting_N hc hn hg, barrel_N hm w0 w3 w5 hst hn hg]
  simp only [bd1]
  generalize mkS (ftB n b g K cst) n = S at h8
  by_cases hz : S = 0
  · subst hz
    refine ⟨_, rfl, ?_, hC, hI, hT, hF, hS, hQ⟩
    rw [show FU = 999 + 1 from rfl, M_asks_L13, M_asks_13, if_neg (by decide), if_pos (show nI 0 = 0 from rfl)]
  · rw [if_neg (show ¬ nI S = 0 from fun e => hz ((nI_eq (by omega) (by omega)).mp (show nI S = nI 0 from e)))]
    obtain ⟨r, e1, e2⟩ := asks_L (cab := nI b) (csg := nI g) (st := cst) hc hm w0 hn h8 hz 9 0 FU (by omega) (by unfold FU; omega) (-1) 9 1000000 (Or.inr ⟨fun m h => not_m9 h, fun m h => not_mM h⟩)
    exact ⟨r, e1, e2, hC, hI, hT, hF, hS, hQ⟩
