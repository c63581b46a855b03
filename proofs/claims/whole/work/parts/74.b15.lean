/-! PURE: reading: tokens -/
def TX (len : Nat) (tb : Nat → Nat) (tby tx : Nat → Int32) : Prop := len ≤ 150 ∧ ∀ j, j < len → tb j < 128 ∧ tby j = nI (tb j) ∧ tx j = nI (tb j)
def isL (v : Nat) : Bool := decide (97 ≤ v ∧ v ≤ 122)
def isF (v : Nat) : Bool := decide (48 ≤ v ∧ v ≤ 57)
def isB (v : Nat) : Bool := decide (v = 32)
theorem byteC {len p : Nat} {tb : Nat → Nat} {tby tx : Nat → Int32} (h : TX len tb tby tx) (hp : p < len) : T_byteAt (nI p) tby = some (nI (tb p)) := by
  have := h.1
  unfold T_byteAt
  rw [if_neg (nI_pos (by omega)), if_neg (show ¬ (150 : Int32) ≤ nI p from nI_ge (a := p) (b := 150) (by omega) (by omega)), inb_t (by omega) (by omega), nI_clamp (by omega), (h.2 p hp).2.1]
  rfl
theorem byteM {len p : Nat} {tb : Nat → Nat} {tby tx : Nat → Int32} (h : TX len tb tby tx) (hp : p < len) : M_byteAt (nI p) tx (nI len) = some (nI (tb p)) := by
  have := h.1
  unfold M_byteAt
  rw [if_neg (nI_ge (by omega) (by omega)), inb_t (by omega) (by omega), nI_clamp (by omega), (h.2 p hp).2.2]
  rfl
theorem byteE {len p : Nat} {tx : Nat → Int32} (hl : len ≤ p) (hp : p < 2 ^ 31) : M_byteAt (nI p) tx (nI len) = some (-1) := by
  unfold M_byteAt
  rw [if_pos (nI_le hl hp)]
theorem letC : ∀ v, v < 128 → T_isLetter (nI v) = some (bI (isL v)) := by decide +kernel
theorem figC : ∀ v, v < 128 → T_isFigure (nI v) = some (bI (isF v)) := by decide +kernel
theorem letM : ∀ v, v < 128 → M_in (nI v).toInt64 97 122 = some (bI (isL v)) := by decide +kernel
theorem figM : ∀ v, v < 128 → M_in (nI v).toInt64 48 57 = some (bI (isF v)) := by decide +kernel
theorem letE : M_in (-1 : Int32).toInt64 97 122 = some 0 := by decide +kernel
theorem figE : M_in (-1 : Int32).toInt64 48 57 = some 0 := by decide +kernel
/-- the end of a run -/
def en (q : Nat → Bool) (tb : Nat → Nat) : Nat → Nat → Nat
  | 0, p => p
  | d + 1, p => if q (tb p) = true then en q tb d (p + 1) else p
theorem en_le (q : Nat → Bool) (tb : Nat → Nat) : ∀ d p, p ≤ en q tb d p ∧ en q tb d p ≤ p + d
  | 0, p => ⟨Nat.le_refl _, by rw [en]; omega⟩
  | d + 1, p => by
    have := en_le q tb d (p + 1)
    rw [en]
    split <;> omega
theorem en_in (q : Nat → Bool) (tb : Nat → Nat) : ∀ d p j, p ≤ j → j < en q tb d p → q (tb j) = true
  | 0, p, j, h1, h2 => by rw [en] at h2; omega
  | d + 1, p, j, h1, h2 => by
    rw [en] at h2
    by_cases h : q (tb p) = true
    · rw [if_pos h] at h2
      by_cases e : j = p
      · rw [e]; exact h
      · exact en_in q tb d (p + 1) j (by omega) h2
    · rw [if_neg h] at h2; omega
theorem en_out (q : Nat → Bool) (tb : Nat → Nat) : ∀ d p, en q tb d p < p + d → q (tb (en q tb d p)) = false
  | 0, p, h => by rw [en] at h; omega
  | d + 1, p, h => by
    rw [en] at h ⊢
    by_cases c : q (tb p) = true
    · rw [if_pos c] at h ⊢
      exact en_out q tb d (p + 1) (by omega)
    · rw [if_neg c] at h ⊢
      cases e : q (tb p)
      · rfl
      · exact absurd e c
theorem wordC_L {len : Nat} {tb : Nat → Nat} {tby tx : Nat → Int32} (h : TX len tb tby tx) (tsr ttk : Int32) : ∀ d p fuel, p + d = len → d < fuel → T_takeWord_L0 fuel tby (nI len) (nI p) tsr ttk = T_takeWord_38 tby (nI len) (nI (en isL tb d p)) tsr ttk := by
  have h150 := h.1
  intro d
  induction d with
  | zero =>
    intro p fuel hp hf
    obtain ⟨g, rfl⟩ := fuel1 hf
    rw [T_takeWord_L0, T_takeWord_0, if_pos (nI_le (by omega) (by omega))]
    rfl
  | succ d ih =>
    intro p fuel hp hf
    obtain ⟨g, rfl⟩ := fuel1 hf
    have hh := ih (p + 1) g (by omega) (by omega)
    rw [T_takeWord_L0, T_takeWord_0, if_neg (nI_ge (by omega) (by omega)), byteC h (by omega), bd1_s, letC _ (h.2 p (by omega)).1, bd1_s, bI_ite]
    simp only [bnd]
    rw [nI_1, en, hh]
    by_cases c : isL (tb p) = true
    · rw [if_pos c, if_pos c]
    · rw [if_neg c, if_neg c]
theorem wordM_L {len : Nat} {tb : Nat → Nat} {tby tx : Nat → Int32} (h : TX len tb tby tx) (sp : Int32) : ∀ d p fuel, p + d = len → d < fuel → M_token_L103 fuel tx (nI len) (nI p) sp 1 0 = some (nI (en isL tb d p), sp, 1, 0) := by
  have h150 := h.1
  intro d
  induction d with
  | zero =>
    intro p fuel hp hf
    obtain ⟨g, rfl⟩ := fuel1 hf
    rw [M_token_L103, M_token_103, if_neg (by decide), byteE (by omega) (by omega), bd1_s, letE, bd1_s, if_pos rfl]
    rfl
  | succ d ih =>
    intro p fuel hp hf
    obtain ⟨g, rfl⟩ := fuel1 hf
    have hh := ih (p + 1) g (by omega) (by omega)
    rw [M_token_L103, M_token_103, if_neg (by decide), byteM h (by omega), bd1_s, letM _ (h.2 p (by omega)).1, bd1_s, bI_ite]
    unfold M_token_159 M_token_131
    simp only [bnd]
    rw [nI_1, en, hh, if_pos trivial]
    by_cases c : isL (tb p) = true
    · rw [if_pos c, if_pos c]
    · rw [if_neg c, if_neg c]
theorem figM_L {len : Nat} {tb : Nat → Nat} {tby tx : Nat → Int32} (h : TX len tb tby tx) (sp : Int32) : ∀ d p fuel, p + d = len → d < fuel → M_token_L103 fuel tx (nI len) (nI p) sp 0 1 = some (nI (en isF tb d p), sp, 0, 1) := by
  have h150 := h.1
  intro d
  induction d with
  | zero =>
    intro p fuel hp hf
    obtain ⟨g, rfl⟩ := fuel1 hf
    rw [M_token_L103, M_token_103, if_pos rfl]
    unfold M_token_131
    rw [if_neg (by decide), byteE (by omega) (by omega), bd1_s, figE, bd1_s, if_pos rfl]
    rfl
  | succ d ih =>
    intro p fuel hp hf
    obtain ⟨g, rfl⟩ := fuel1 hf
    have hh := ih (p + 1) g (by omega) (by omega)
    rw [M_token_L103, M_token_103, if_pos rfl]
    unfold M_token_131
    rw [if_neg (by decide), byteM h (by omega), bd1_s, figM _ (h.2 p (by omega)).1, bd1_s, bI_ite]
    unfold M_token_159
    simp only [bnd]
    rw [nI_1, en, hh]
    by_cases c : isF (tb p) = true
    · rw [if_pos c, if_pos c]
    · rw [if_neg c, if_neg c]
theorem spaceC_L {len : Nat} {tb : Nat → Nat} {tby tx : Nat → Int32} (h : TX len tb tby tx) (tsr ttk tnm : Int32) : ∀ d p fuel, p + d = len → d < fuel → T_step_L0 fuel tby (nI len) (nI p) tsr ttk tnm = T_step_37 tby (nI len) (nI (en isB tb d p)) tsr ttk tnm := by
  have h150 := h.1
  intro d
  induction d with
  | zero =>
    intro p fuel hp hf
    obtain ⟨g, rfl⟩ := fuel1 hf
    rw [T_step_L0, T_step_0, if_pos (nI_le (by omega) (by omega))]
    rfl
  | succ d ih =>
    intro p fuel hp hf
    obtain ⟨g, rfl⟩ := fuel1 hf
    have hh := ih (p + 1) g (by omega) (by omega)
    have hv := (h.2 p (by omega)).1
    rw [T_step_L0, T_step_0, if_neg (nI_ge (by omega) (by omega)), byteC h (by omega), bd1_s]
    simp only [bnd]
    rw [nI_1, en, hh]
    unfold isB
    by_cases c : tb p = 32
    · rw [if_pos (show nI (tb p) = 32 by rw [c]; rfl), if_pos (decide_eq_true c)]
    · rw [if_neg (show ¬ nI (tb p) = 32 from fun e => c ((nI_eq (by omega) (by omega)).mp (show nI (tb p) = nI 32 from e))), if_neg (by simp [c])]
