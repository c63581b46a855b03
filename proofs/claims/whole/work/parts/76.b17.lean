/-! PURE: reading: words -/
theorem jl0 : J_length 0 = some (nI 4) := rfl
theorem jl1 : J_length 1 = some (nI 5) := rfl
theorem jl2 : J_length 2 = some (nI 4) := rfl
def chr0 (j : Nat) : Nat := ([115, 104, 105, 112] : List Nat).getD j 0
def chr1 (j : Nat) : Nat := ([103, 111, 111, 100, 115] : List Nat).getD j 0
def chr2 (j : Nat) : Nat := ([111, 118, 101, 114] : List Nat).getD j 0
theorem jc0 : ∀ j, j < 4 → J_charAt 0 (nI j) = some (nI (chr0 j)) := by decide +kernel
theorem jc1 : ∀ j, j < 5 → J_charAt 1 (nI j) = some (nI (chr1 j)) := by decide +kernel
theorem jc2 : ∀ j, j < 4 → J_charAt 2 (nI j) = some (nI (chr2 j)) := by decide +kernel
theorem ch0_le : ∀ j, j < 4 → chr0 j < 128 := by decide +kernel
theorem ch1_le : ∀ j, j < 5 → chr1 j < 128 := by decide +kernel
theorem ch2_le : ∀ j, j < 4 → chr2 j < 128 := by decide +kernel
/-- from j on the letters are as c says -/
def spl (c tb : Nat → Nat) (s : Nat) : Nat → Nat → Bool
  | _, 0 => true
  | j, d + 1 => decide (c j = tb (s + j)) && spl c tb s (j + 1) d
theorem sp0_L {len s : Nat} {tb : Nat → Nat} {tby tx : Nat → Int32} (h : TX len tb tby tx) (hs : s + 4 ≤ len) (tat : Int32) : ∀ d j fuel, j + d = 4 → d < fuel → T_spells0_L20 fuel (nI j) tby tat (nI s) = some (bI (spl chr0 tb s j d)) := by
  have h150 := h.1
  intro d
  induction d with
  | zero =>
    intro j fuel hj hf
    obtain ⟨g, rfl⟩ := fuel1 hf
    rw [T_spells0_L20, T_spells0_20, jl0, bd1_s, if_pos (nI_le (by omega) (by omega))]
    rfl
  | succ d ih =>
    intro j fuel hj hf
    obtain ⟨g, rfl⟩ := fuel1 hf
    have hv := (h.2 (s + j) (by omega)).1
    have hc := ch0_le j (by omega)
    rw [T_spells0_L20, T_spells0_20, jl0, bd1_s, if_neg (nI_ge (by omega) (by omega)), jc0 j (by omega), bd1_s, nI_add, byteC h (by omega), bd1_s]
    simp only [bnd]
    rw [nI_1, ih (j + 1) g (by omega) (by omega), spl]
    by_cases c : chr0 j = tb (s + j)
    · rw [if_pos (by rw [c]), decide_eq_true c, Bool.true_and]
    · rw [if_neg (fun e => c ((nI_eq (by omega) (by omega)).mp e)), decide_eq_false c]
      rfl
theorem sp1_L {len s : Nat} {tb : Nat → Nat} {tby tx : Nat → Int32} (h : TX len tb tby tx) (hs : s + 5 ≤ len) (tat : Int32) : ∀ d j fuel, j + d = 5 → d < fuel → T_spells1_L20 fuel (nI j) tby tat (nI s) = some (bI (spl chr1 tb s j d)) := by
  have h150 := h.1
  intro d
  induction d with
  | zero =>
    intro j fuel hj hf
    obtain ⟨g, rfl⟩ := fuel1 hf
    rw [T_spells1_L20, T_spells1_20, jl1, bd1_s, if_pos (nI_le (by omega) (by omega))]
    rfl
  | succ d ih =>
    intro j fuel hj hf
    obtain ⟨g, rfl⟩ := fuel1 hf
    have hv := (h.2 (s + j) (by omega)).1
    have hc := ch1_le j (by omega)
    rw [T_spells1_L20, T_spells1_20, jl1, bd1_s, if_neg (nI_ge (by omega) (by omega)), jc1 j (by omega), bd1_s, nI_add, byteC h (by omega), bd1_s]
    simp only [bnd]
    rw [nI_1, ih (j + 1) g (by omega) (by omega), spl]
    by_cases c : chr1 j = tb (s + j)
    · rw [if_pos (by rw [c]), decide_eq_true c, Bool.true_and]
    · rw [if_neg (fun e => c ((nI_eq (by omega) (by omega)).mp e)), decide_eq_false c]
      rfl
theorem sp2_L {len s : Nat} {tb : Nat → Nat} {tby tx : Nat → Int32} (h : TX len tb tby tx) (hs : s + 4 ≤ len) (tat : Int32) : ∀ d j fuel, j + d = 4 → d < fuel → T_spells2_L20 fuel (nI j) tby tat (nI s) = some (bI (spl chr2 tb s j d)) := by
  have h150 := h.1
  intro d
  induction d with
  | zero =>
    intro j fuel hj hf
    obtain ⟨g, rfl⟩ := fuel1 hf
    rw [T_spells2_L20, T_spells2_20, jl2, bd1_s, if_pos (nI_le (by omega) (by omega))]
    rfl
  | succ d ih =>
    intro j fuel hj hf
    obtain ⟨g, rfl⟩ := fuel1 hf
    have hv := (h.2 (s + j) (by omega)).1
    have hc := ch2_le j (by omega)
    rw [T_spells2_L20, T_spells2_20, jl2, bd1_s, if_neg (nI_ge (by omega) (by omega)), jc2 j (by omega), bd1_s, nI_add, byteC h (by omega), bd1_s]
    simp only [bnd]
    rw [nI_1, ih (j + 1) g (by omega) (by omega), spl]
    by_cases c : chr2 j = tb (s + j)
    · rw [if_pos (by rw [c]), decide_eq_true c, Bool.true_and]
    · rw [if_neg (fun e => c ((nI_eq (by omega) (by omega)).mp e)), decide_eq_false c]
      rfl
