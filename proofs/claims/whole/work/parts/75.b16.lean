/-! PURE: reading: the model's token -/
theorem spaceM_L {len : Nat} {tb : Nat → Nat} {tby tx : Nat → Int32} (h : TX len tb tby tx) (sp iw ig : Int32) : ∀ d p fuel, p + d = len → d < fuel → M_token_L0 fuel tx (nI len) (nI p) sp iw ig = if en isB tb d p < len then M_token_L103 FU tx (nI len) (nI (en isB tb d p + 1)) (nI (en isB tb d p)) (bI (isL (tb (en isB tb d p)))) (bI (isF (tb (en isB tb d p)))) else M_token_L103 FU tx (nI len) (nI (en isB tb d p)) (nI (en isB tb d p)) 0 0 := by
  have h150 := h.1
  intro d
  induction d with
  | zero =>
    intro p fuel hp hf
    obtain ⟨g, rfl⟩ := fuel1 hf
    rw [M_token_L0, M_token_0, byteE (by omega) (by omega), bd1_s, if_neg (show ¬ (-1 : Int32) = 32 by decide), bd1_s, letE, bd1_s, bd1_s, figE, bd1_s, if_pos (nI_le (by omega) (by omega))]
    unfold M_token_99
    simp only [bnd, Int32.add_zero]
    rw [show en isB tb 0 p = p from rfl, if_neg (by omega)]
    rfl
  | succ d ih =>
    intro p fuel hp hf
    obtain ⟨g, rfl⟩ := fuel1 hf
    have hh := ih (p + 1) g (by omega) (by omega)
    have hv := (h.2 p (by omega)).1
    rw [M_token_L0, M_token_0, byteM h (by omega), bd1_s, bd1_s, letM _ hv, bd1_s, bd1_s, figM _ hv, bd1_s, if_neg (show ¬ nI len ≤ nI p from nI_ge (by omega) (by omega)), bo_bI, bo_bI]
    unfold M_token_99
    simp only [bnd, ck]
    rw [nI_1]
    by_cases c : tb p = 32
    · have e : en isB tb (d + 1) p = en isB tb d (p + 1) := by rw [en, if_pos (show isB (tb p) = true from decide_eq_true c)]
      rw [if_pos (show nI (tb p) = 32 by rw [c]; rfl), e]
      exact hh
    · have e : en isB tb (d + 1) p = p := by rw [en, if_neg (show ¬ isB (tb p) = true from fun q => c (of_decide_eq_true q))]
      rw [if_neg (show ¬ nI (tb p) = 32 from fun e => c ((nI_eq (by omega) (by omega)).mp (show nI (tb p) = nI 32 from e))), e, if_pos (by omega)]
theorem tok00 (fuel : Nat) (tx : Nat → Int32) (td ap sp : Int32) : M_token_L103 (fuel + 1) tx td ap sp 0 0 = some (ap, sp, 0, 0) := rfl
theorem isLF {v : Nat} (h : isL v = true) : isF v = false := by
  unfold isL at h
  unfold isF
  simp at h ⊢
  omega
/-- where a token ends -/
def tend (tb : Nat → Nat) (len s : Nat) : Nat := if s < len then (if isL (tb s) = true then en isL tb (len - (s + 1)) (s + 1) else if isF (tb s) = true then en isF tb (len - (s + 1)) (s + 1) else s + 1) else s
def tbeg (tb : Nat → Nat) (len p : Nat) : Nat := en isB tb (len - p) p
theorem tbeg_le {tb : Nat → Nat} {len p : Nat} (hp : p ≤ len) : p ≤ tbeg tb len p ∧ tbeg tb len p ≤ len := by
  have := en_le isB tb (len - p) p
  unfold tbeg
  omega
theorem tend_le {tb : Nat → Nat} {len s : Nat} (hs : s ≤ len) : s ≤ tend tb len s ∧ tend tb len s ≤ len ∧ (s < len → s < tend tb len s) := by
  unfold tend
  have h1 := en_le isL tb (len - (s + 1)) (s + 1)
  have h2 := en_le isF tb (len - (s + 1)) (s + 1)
  by_cases c : s < len
  · rw [if_pos c]
    split
    · omega
    · split <;> omega
  · rw [if_neg c]
    omega
theorem tokM {len p : Nat} {tb : Nat → Nat} {tby tx : Nat → Int32} (h : TX len tb tby tx) (hp : p ≤ len) (sp iw ig : Int32) : M_token tx (nI len) (nI p) sp iw ig = some (nI (tend tb len (tbeg tb len p)), nI (tbeg tb len p), bI (decide (tbeg tb len p < len) && isL (tb (tbeg tb len p))), bI (decide (tbeg tb len p < len) && isF (tb (tbeg tb len p)))) := by
  have h150 := h.1
  unfold M_token
  rw [spaceM_L h sp iw ig (len - p) p FU (by omega) (by unfold FU; omega)]
  show (if tbeg tb len p < len then M_token_L103 FU tx (nI len) (nI (tbeg tb len p + 1)) (nI (tbeg tb len p)) (bI (isL (tb (tbeg tb len p)))) (bI (isF (tb (tbeg tb len p)))) else M_token_L103 FU tx (nI len) (nI (tbeg tb len p)) (nI (tbeg tb len p)) 0 0) = _
  have hb := tbeg_le (tb := tb) hp
  generalize tbeg tb len p = s at *
  unfold tend
  by_cases c : s < len
  · rw [if_pos c, if_pos c, decide_eq_true c, Bool.true_and, Bool.true_and]
    by_cases c1 : isL (tb s) = true
    · rw [if_pos c1, isLF c1, c1]
      exact wordM_L h (nI s) (len - (s + 1)) (s + 1) FU (by omega) (by unfold FU; omega)
    · rw [if_neg c1]
      have e1 : isL (tb s) = false := by cases e : isL (tb s) <;> simp_all
      by_cases c2 : isF (tb s) = true
      · rw [if_pos c2, e1, c2]
        exact figM_L h (nI s) (len - (s + 1)) (s + 1) FU (by omega) (by unfold FU; omega)
      · rw [if_neg c2]
        have e2 : isF (tb s) = false := by cases e : isF (tb s) <;> simp_all
        rw [e1, e2]
        exact tok00 999 tx (nI len) (nI (s + 1)) (nI s)
  · rw [if_neg c, if_neg c, decide_eq_false c]
    exact tok00 999 tx (nI len) (nI s) (nI s)
