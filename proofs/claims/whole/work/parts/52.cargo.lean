/-! PURE: the goods on both sides -/
def GCv (n : Nat) (K : Nat → Nat → Nat) (fc : Nat → Int32) : Prop := ∀ k j, k < n → j < 6 → fc (6 * k + j) = nI (K k j)
def GMv (n : Nat) (K : Nat → Nat → Nat) (w : Nat → Int32) (o : Nat) : Prop := ∀ k j, k < n → j < 6 → w (o + (6 + 8 * j + k)) = nI (K k j)
def KB (n : Nat) (K : Nat → Nat → Nat) : Prop := ∀ k, k < n → K k 0 ≤ 5 ∧ K k 1 ≤ 3 ∧ K k 2 ≤ 2 ∧ 1 ≤ K k 3 ∧ K k 3 ≤ 40 ∧ K k 4 ≤ 60 ∧ K k 5 ≤ 60
theorem fuel1 {f d : Nat} (h : d < f) : ∃ g, f = g + 1 := ⟨f - 1, by omega⟩
theorem inb_N {i n : Nat} (hi : i < 2 ^ 31) : inb (nI i) n = decide (i < n) := by
  unfold inb
  rw [nI_clamp hi]
  have h0 : ¬ nI i < 0 := nI_pos hi
  by_cases h : i < n
  · simp [h0, h]
  · simp [h0, h]
    omega
theorem inb_t {i n : Nat} (h : i < n) (hn : n < 2 ^ 31) : inb (nI i) n = true := by
  rw [inb_N (by omega)]
  simp [h]
theorem chas_N {k n : Nat} (hk : k < 2 ^ 31) (hn : n < 2 ^ 31) : C_has (nI k) (nI n) = some (if k < n then 1 else 0) := by
  unfold C_has
  rw [if_neg (nI_pos hk)]
  by_cases h : k < n
  · rw [if_neg (nI_ge h hn), if_pos h]
  · rw [if_pos (nI_le (by omega) hk), if_neg h]
/-- has(k) of any number -/
theorem chas_w (a : Int32) {n : Nat} (hn : n < 2 ^ 31) : C_has a (nI n) = some (if 0 ≤ a ∧ a < nI n then 1 else 0) := by
  unfold C_has
  by_cases h1 : a < 0
  · have : ¬ 0 ≤ a := Int32.not_le.mpr h1
    simp [h1, this]
  · have h2 : 0 ≤ a := Int32.not_lt.mp h1
    by_cases h3 : nI n ≤ a
    · have : ¬ a < nI n := Int32.not_lt.mpr h3
      simp [h1, h3, this]
    · have : a < nI n := Int32.not_le.mp h3
      simp [h1, h2, h3, this]
theorem fact_N {n k j : Nat} {K : Nat → Nat → Nat} {fc : Nat → Int32} (hc : GCv n K fc) (hn : n ≤ 8) (hk : k < n) (hj : j < 6) : C_fact (nI k) (nI j) (nI n) fc = some (nI (K k j)) := by
  unfold C_fact
  rw [chas_N (by omega) (by omega)]
  simp only [bd1, ite_10, hk, if_true, within_w]
  have h0 : (0 : Int32) ≤ nI j := nI_pos' (by omega)
  have h5 : nI j ≤ 5 := by rw [show (5 : Int32) = nI 5 from rfl]; exact nI_le (by omega) (by omega)
  simp only [h0, h5, and_self, if_true]
  rw [show (6 : Int32) = nI 6 from rfl, pk_mul, nI_add, inb_t (by omega) (by omega), nI_clamp (by omega)]
  simp only [ck]
  rw [Nat.mul_comm k 6, hc k j hk hj]
  rfl
/-- sums over a set: the class's -/
theorem total_L {n S j : Nat} {K : Nat → Nat → Nat} {fc : Nat → Int32} (hc : GCv n K fc) (hn : n ≤ 8) (hj : j < 6) (hS : S < 2 ^ 31) : ∀ d k fuel, k + d = n → d < fuel → C_total_L5 fuel (nI S) (nI j) (nI (sm (inS S (fun k => K k j)) k)) (nI k) (nI n) fc = some (nI (sm (inS S (fun k => K k j)) n)) := by
  intro d
  induction d with
  | zero =>
    intro k fuel hk hf
    obtain ⟨g, rfl⟩ := fuel1 hf
    have hk : k = n := by omega
    subst hk
    rw [C_total_L5, C_total_5, if_pos (nI_le (by omega) (by omega))]
  | succ d ih =>
    intro k fuel hk hf
    obtain ⟨g, rfl⟩ := fuel1 hf
    have h := ih (k + 1) g (by omega) (by omega)
    rw [C_total_L5, C_total_5, if_neg (nI_ge (by omega) (by omega)), isIn_N hS (by omega)]
    simp only [bd1, bnd, ite_10]
    by_cases hb : S.testBit k = true
    · rw [if_pos hb, fact_N hc hn (by omega) hj]
      simp only
      rw [nI_add, nI_1]
      rw [show sm (inS S (fun k => K k j)) (k + 1) = sm (inS S (fun k => K k j)) k + K k j by rw [sm, inS, if_pos hb]] at h
      exact h
    · rw [if_neg hb, nI_1]
      rw [show sm (inS S (fun k => K k j)) (k + 1) = sm (inS S (fun k => K k j)) k by rw [sm, inS, if_neg hb]; rfl] at h
      exact h
theorem total_N {n S j : Nat} {K : Nat → Nat → Nat} {fc : Nat → Int32} (hc : GCv n K fc) (hn : n ≤ 8) (hj : j < 6) (hS : S < 2 ^ 31) : C_total (nI S) (nI j) (nI n) fc = some (nI (sm (inS S (fun k => K k j)) n)) :=
  total_L hc hn hj hS n 0 FU (by omega) (by unfold FU; omega)
/-- the model's -/
theorem heavy_L {n S : Nat} {K : Nat → Nat → Nat} {w : Nat → Int32} (hm : GMv n K w 0) (h0 : w 0 = nI n) (hn : n ≤ 8) (hS : S < 2 ^ 31) : ∀ d k fuel, k + d = n → d < fuel → M_heavyOf_L4 fuel (nI S) (nI (sm (inS S (fun k => K k 3)) k)) (nI k) w = some (nI (sm (inS S (fun k => K k 3)) n)) := by
  intro d
  induction d with
  | zero =>
    intro k fuel hk hf
    obtain ⟨g, rfl⟩ := fuel1 hf
    have hk : k = n := by omega
    subst hk
    rw [M_heavyOf_L4, M_heavyOf_4, h0, if_pos (nI_le (by omega) (by omega))]
  | succ d ih =>
    intro k fuel hk hf
    obtain ⟨g, rfl⟩ := fuel1 hf
    have h := ih (k + 1) g (by omega) (by omega)
    rw [M_heavyOf_L4, M_heavyOf_4, h0, if_neg (nI_ge (by omega) (by omega)), has_N hS (by omega)]
    simp only [bd1, bnd, ite_10]
    rw [show (30 : Int32) = nI 30 from rfl, nI_add, inb_t (by omega) (by omega), nI_clamp (by omega)]
    have hv : w (30 + k) = nI (K k 3) := by have := hm k 3 (by omega) (by omega); rwa [show 0 + (6 + 8 * 3 + k) = 30 + k by omega] at this
    rw [hv]
    simp only [ck]
    by_cases hb : S.testBit k = true
    · rw [if_pos hb, nI_add, nI_1]
      rw [show sm (inS S (fun k => K k 3)) (k + 1) = sm (inS S (fun k => K k 3)) k + K k 3 by rw [sm, inS, if_pos hb]] at h
      exact h
    · rw [if_neg hb, nI_1, Int32.add_zero]
      rw [show sm (inS S (fun k => K k 3)) (k + 1) = sm (inS S (fun k => K k 3)) k by rw [sm, inS, if_neg hb]; rfl] at h
      exact h
theorem heavy_N {n S : Nat} {K : Nat → Nat → Nat} {w : Nat → Int32} (hm : GMv n K w 0) (h0 : w 0 = nI n) (hn : n ≤ 8) (hS : S < 2 ^ 31) : M_heavyOf (nI S) w = some (nI (sm (inS S (fun k => K k 3)) n)) :=
  heavy_L hm h0 hn hS n 0 FU (by omega) (by unfold FU; omega)
theorem worth_L {n S : Nat} {K : Nat → Nat → Nat} {w : Nat → Int32} (hm : GMv n K w 0) (h0 : w 0 = nI n) (hn : n ≤ 8) (hS : S < 2 ^ 31) : ∀ d k fuel, k + d = n → d < fuel → M_worthOf_L4 fuel (nI S) (nI (sm (inS S (fun k => K k 4)) k)) (nI k) w = some (nI (sm (inS S (fun k => K k 4)) n)) := by
  intro d
  induction d with
  | zero =>
    intro k fuel hk hf
    obtain ⟨g, rfl⟩ := fuel1 hf
    have hk : k = n := by omega
    subst hk
    rw [M_worthOf_L4, M_worthOf_4, h0, if_pos (nI_le (by omega) (by omega))]
  | succ d ih =>
    intro k fuel hk hf
    obtain ⟨g, rfl⟩ := fuel1 hf
    have h := ih (k + 1) g (by omega) (by omega)
    rw [M_worthOf_L4, M_worthOf_4, h0, if_neg (nI_ge (by omega) (by omega)), has_N hS (by omega)]
    simp only [bd1, bnd, ite_10]
    rw [show (38 : Int32) = nI 38 from rfl, nI_add, inb_t (by omega) (by omega), nI_clamp (by omega)]
    have hv : w (38 + k) = nI (K k 4) := by have := hm k 4 (by omega) (by omega); rwa [show 0 + (6 + 8 * 4 + k) = 38 + k by omega] at this
    rw [hv]
    simp only [ck]
    by_cases hb : S.testBit k = true
    · rw [if_pos hb, nI_add, nI_1]
      rw [show sm (inS S (fun k => K k 4)) (k + 1) = sm (inS S (fun k => K k 4)) k + K k 4 by rw [sm, inS, if_pos hb]] at h
      exact h
    · rw [if_neg hb, nI_1, Int32.add_zero]
      rw [show sm (inS S (fun k => K k 4)) (k + 1) = sm (inS S (fun k => K k 4)) k by rw [sm, inS, if_neg hb]; rfl] at h
      exact h
theorem worth_N {n S : Nat} {K : Nat → Nat → Nat} {w : Nat → Int32} (hm : GMv n K w 0) (h0 : w 0 = nI n) (hn : n ≤ 8) (hS : S < 2 ^ 31) : M_worthOf (nI S) w = some (nI (sm (inS S (fun k => K k 4)) n)) :=
  worth_L hm h0 hn hS n 0 FU (by omega) (by unfold FU; omega)
