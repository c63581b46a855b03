/-! PURE: reading: figures -/
def vl (tb : Nat → Nat) (s : Nat) : Nat → Nat
  | 0 => 0
  | k + 1 => 10 * vl tb s k + (tb (s + k) - 48)
theorem isF_b {v : Nat} (h : isF v = true) : 48 ≤ v ∧ v ≤ 57 := of_decide_eq_true h
theorem nI_dig {a v : Nat} (h : 48 ≤ v) : nI a * 10 + nI v - 48 = nI (10 * a + (v - 48)) := by
  rw [show (10 : Int32) = nI 10 from rfl, show (48 : Int32) = nI 48 from rfl, pk_mul, nI_add, pk_sub (by omega)]
  congr 1
  omega
theorem nI_dig' {a v : Nat} (h : 48 ≤ v) : 10 * nI a + nI v - 48 = nI (10 * a + (v - 48)) := by
  rw [show (10 : Int32) = nI 10 from rfl, show (48 : Int32) = nI 48 from rfl, pk_mul, nI_add, pk_sub (by omega)]
  congr 1
  omega
theorem figC_L {len s : Nat} {tb : Nat → Nat} {tby tx : Nat → Int32} (h : TX len tb tby tx) (ttk : Int32) : ∀ d p fuel, p + d = len → d < fuel → s ≤ p → T_takeFigures_L5 fuel tby (nI len) (nI p) (nI s) ttk (nI (vl tb s (min (p - s) 3))) = T_takeFigures_79 tby (nI len) (nI (en isF tb d p)) (nI s) ttk (nI (vl tb s (min (en isF tb d p - s) 3))) := by
  have h150 := h.1
  intro d
  induction d with
  | zero =>
    intro p fuel hp hf hs
    obtain ⟨g, rfl⟩ := fuel1 hf
    rw [T_takeFigures_L5, T_takeFigures_5, if_pos (nI_le (by omega) (by omega))]
    rfl
  | succ d ih =>
    intro p fuel hp hf hs
    obtain ⟨g, rfl⟩ := fuel1 hf
    have hh := ih (p + 1) g (by omega) (by omega) (by omega)
    have hv := (h.2 p (by omega)).1
    rw [T_takeFigures_L5, T_takeFigures_5, if_neg (nI_ge (by omega) (by omega)), byteC h (by omega), bd1_s, figC _ hv, bd1_s, bI_ite, bd1_s, sub_N hs]
    unfold T_takeFigures_66
    simp only [bnd]
    rw [nI_1]
    by_cases c : isF (tb p) = true
    · have e : en isF tb (d + 1) p = en isF tb d (p + 1) := by rw [en, if_pos c]
      rw [if_pos c, e, ← hh]
      by_cases k : 3 ≤ p - s
      · rw [if_pos (show (3 : Int32) ≤ nI (p - s) from nI_le (a := 3) (b := p - s) k (by omega)), show min (p + 1 - s) 3 = min (p - s) 3 by omega]
      · rw [if_neg (show ¬ (3 : Int32) ≤ nI (p - s) from nI_ge (a := p - s) (b := 3) (by omega) (by omega)), nI_dig (isF_b c).1, show min (p + 1 - s) 3 = min (p - s) 3 + 1 by omega, vl, show s + min (p - s) 3 = p by omega]
    · have e : en isF tb (d + 1) p = p := by rw [en, if_neg c]
      rw [if_neg c, e]
theorem vl_lt {tb : Nat → Nat} {s : Nat} : ∀ k, (∀ j, j < k → isF (tb (s + j)) = true) → vl tb s k < 10 ^ k
  | 0, _ => by rw [vl]; omega
  | k + 1, h => by
    have := vl_lt k (fun j hj => h j (by omega))
    have b := isF_b (h k (by omega))
    rw [vl, Nat.pow_succ]
    omega
theorem takM_L {len s e i : Nat} {tb : Nat → Nat} {tby tx nu : Nat → Int32} {lo hi iw ig : Int32} (h : TX len tb tby tx) (he : e ≤ len) (h3 : e ≤ s + 3) (hi6 : i < 6) (hF : ∀ j, s ≤ j → j < e → isF (tb j) = true) : ∀ d p fuel, p + d = e → d < fuel → s ≤ p → M_takes_L35 fuel (nI i) lo hi (nI (vl tb s (p - s))) (nI p) tx (nI len) (nI e) (nI s) iw ig nu = some (if lo ≤ nI (vl tb s (e - s)) ∧ nI (vl tb s (e - s)) ≤ hi then 1 else 0, nI e, nI s, iw, ig, upd nu i (nI (vl tb s (e - s)))) := by
  have h150 := h.1
  intro d
  induction d with
  | zero =>
    intro p fuel hp hf hs
    obtain ⟨g, rfl⟩ := fuel1 hf
    have hp : p = e := by omega
    subst hp
    rw [M_takes_L35, M_takes_35, if_pos (nI_le (by omega) (by omega)), inb_t (by omega) (by omega), nI_clamp (by omega)]
    simp only [ck, bnd]
    rw [in_w, bd1_s, bo_ite]
  | succ d ih =>
    intro p fuel hp hf hs
    obtain ⟨g, rfl⟩ := fuel1 hf
    have hh := ih (p + 1) g (by omega) (by omega) (by omega)
    have b := isF_b (hF p hs (by omega))
    rw [M_takes_L35, M_takes_35, if_neg (nI_ge (by omega) (by omega)), byteM h (by omega), bd1_s]
    simp only [bnd]
    rw [nI_1, nI_dig' b.1, ← hh, show p + 1 - s = (p - s) + 1 by omega, vl, show s + (p - s) = p by omega]
