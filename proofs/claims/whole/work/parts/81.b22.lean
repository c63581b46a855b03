/-! PURE: reading: rows of numbers -/
/-- the places of the tokens one after the other -/
def sq (tb : Nat → Nat) (len q : Nat) : Nat → Nat
  | 0 => q
  | j + 1 => nxq tb len (sq tb len q j)
theorem sq_le {tb : Nat → Nat} {len q : Nat} (h : q ≤ len) : ∀ j, q ≤ sq tb len q j ∧ sq tb len q j ≤ len
  | 0 => ⟨Nat.le_refl _, h⟩
  | j + 1 => by
    have h1 := sq_le (tb := tb) h j
    have h2 := nxq_le (tb := tb) h1.2
    rw [sq]
    omega
/-- j is the first that is wrong, or all n are right -/
def frs (ok : Nat → Bool) (n j : Nat) : Prop := j ≤ n ∧ (∀ i, i < j → ok i = true) ∧ (j < n → ok j = false)
theorem frs_u {ok : Nat → Bool} {n j k : Nat} (h : frs ok n j) (h' : frs ok n k) : j = k := by
  obtain ⟨a1, a2, a3⟩ := h
  obtain ⟨b1, b2, b3⟩ := h'
  by_cases c : j < k
  · have x := a3 (by omega)
    rw [b2 j c] at x
    exact Bool.noConfusion x
  · by_cases c2 : k < j
    · have x := b3 (by omega)
      rw [a2 k c2] at x
      exact Bool.noConfusion x
    · omega
def ok2 (tb : Nat → Nat) (len q i : Nat) : Bool := okn tb len (sq tb len q i) (([0, 0] : List Int32).getD i 0) (([99, 200] : List Int32).getD i 0)
def ok6 (tb : Nat → Nat) (len q i : Nat) : Bool := okn tb len (sq tb len q i) (([0, 0, 0, 1, 0, 0] : List Int32).getD i 0) (([5, 3, 2, 40, 60, 60] : List Int32).getD i 0)
theorem okn_hi {tb : Nat → Nat} {len q m : Nat} {lo : Int32} (h : okn tb len q lo (nI m) = true) (hm : m < 2 ^ 31) : tvq tb len q ≤ m := by
  obtain ⟨h1, h2, h3⟩ := okn_t.mp h
  have := tvq_lt h1
  exact (nI_leI (by omega) hm).mp h3
theorem okn_lo {tb : Nat → Nat} {len q m : Nat} {hi : Int32} (h : okn tb len q (nI m) hi = true) (hm : m < 2 ^ 31) : m ≤ tvq tb len q := by
  obtain ⟨h1, h2, h3⟩ := okn_t.mp h
  have := tvq_lt h1
  exact (nI_leI hm (by omega)).mp h2
theorem num2_L {len q : Nat} {tb : Nat → Nat} {tby tx : Nat → Int32} (h : TX len tb tby tx) (hq : q ≤ len) (tft : Int32) : ∀ d i fuel tnu tat tsr ttk tnm, i + d = 2 → d < fuel → CS tb len (sq tb len q i) tat tsr ttk tnm → (∀ j, j < i → ok2 tb len q j = true) → (∀ j, j < i → tnu j = nI (tvq tb len (sq tb len q j))) → ∃ j tnu' a b c e, frs (ok2 tb len q) 2 j ∧ T_takeNumbers2_L6 fuel (nI i) tby tnu (nI len) tat tsr ttk tnm tft = some (bI (decide (j = 2)), tnu', a, b, c, e, if j = 2 then tft else b) ∧ CS tb len (sq tb len q j) a b c e ∧ (∀ i', i' < j → tnu' i' = nI (tvq tb len (sq tb len q i'))) := by
  have h150 := h.1
  intro d
  induction d with
  | zero =>
    intro i fuel tnu tat tsr ttk tnm hi hf hC ho ht
    obtain ⟨g, rfl⟩ := fuel1 hf
    have hi : i = 2 := by omega
    subst hi
    refine ⟨2, tnu, tat, tsr, ttk, tnm, ⟨Nat.le_refl _, ho, fun q => absurd q (by omega)⟩, ?_, hC, ht⟩
    rw [T_takeNumbers2_L6, T_takeNumbers2_6, if_pos (show (2 : Int32) ≤ nI 2 by decide), if_pos rfl]
    rfl
  | succ d ih =>
    intro i fuel tnu tat tsr ttk tnm hi hf hC ho ht
    obtain ⟨g, rfl⟩ := fuel1 hf
    have hs := sq_le (tb := tb) hq i
    obtain ⟨rfl, rfl, rfl, hv⟩ := hC
    have bad : ok2 tb len q i = false → ∃ j tnu' a b c e, frs (ok2 tb len q) 2 j ∧ T_takeNumbers2_51 tby tnu (nI len) (nI (nxq tb len (sq tb len q i))) (nI (tbeg tb len (sq tb len q i))) (nI (tkq tb len (sq tb len q i))) tnm tft = some (bI (decide (j = 2)), tnu', a, b, c, e, if j = 2 then tft else b) ∧ CS tb len (sq tb len q j) a b c e ∧ (∀ i', i' < j → tnu' i' = nI (tvq tb len (sq tb len q i'))) := by
      intro z
      refine ⟨i, tnu, _, _, _, _, ⟨by omega, ho, fun _ => z⟩, ?_, ⟨rfl, rfl, rfl, hv⟩, ht⟩
      unfold T_takeNumbers2_51
      rw [if_neg (show ¬ i = 2 by omega), decide_eq_false (show ¬ i = 2 by omega)]
      rfl
    have z2 : ¬ (2 : Int32) ≤ nI i := nI_ge (a := i) (b := 2) (by omega) (by omega)
    have z6' : ¬ (6 : Int32) ≤ nI i := nI_ge (a := i) (b := 6) (by omega) (by omega)
    rw [T_takeNumbers2_L6, T_takeNumbers2_6, if_neg z2, if_neg z2, if_neg z6']
    have k6 := tkq_le tb len (sq tb len q i)
    by_cases k4 : tkq tb len (sq tb len q i) = 4
    · rw [if_pos (show nI (tkq tb len (sq tb len q i)) = 4 by rw [k4]; rfl), inb_t (n := 2) (by omega) (by omega), inb_t (n := 6) (by omega) (by omega), within_w, nI_clamp (by omega)]
      simp only [ck]
      rw [bd1_s, ite_10]
      by_cases z : ok2 tb len q i = true
      · have z' := okn_t.mp z
        rw [hv k4, if_pos z'.2]
        simp only [bnd]
        obtain ⟨a, b, c, e, es, ec⟩ := stepC h (nxq_le (tb := tb) hs.2).2.2.2.1 (nI (tbeg tb len (sq tb len q i))) (nI (tkq tb len (sq tb len q i))) (nI (tvq tb len (sq tb len q i)))
        rw [es, bd4_s, nI_1]
        refine ih (i + 1) g _ a b c e (by omega) (by omega) ec (fun j hj => ?_) (fun j hj => ?_)
        · by_cases e : j = i
          · rw [e]; exact z
          · exact ho j (by omega)
        · by_cases e : j = i
          · rw [e, pk_us]
          · rw [pk_un e]; exact ht j (by omega)
      · rw [if_neg (fun x => z (okn_t.mpr ⟨k4, by rw [hv k4] at x; exact x⟩))]
        exact bad (Bool.eq_false_iff.mpr z)
    · rw [if_neg (show ¬ nI (tkq tb len (sq tb len q i)) = 4 from fun x => k4 ((nI_eq (by omega) (by omega)).mp (show nI (tkq tb len (sq tb len q i)) = nI 4 from x)))]
      exact bad (Bool.eq_false_iff.mpr (fun x => k4 (okn_t.mp x).1))
theorem num2_N {len q : Nat} {tb : Nat → Nat} {tby tx : Nat → Int32} (h : TX len tb tby tx) (hq : q ≤ len) (tnu : Nat → Int32) (tsr ttk tnm tft : Int32) : ∃ j tnu' a b c e, frs (ok2 tb len q) 2 j ∧ T_takeNumbers2 tby tnu (nI len) (nI q) tsr ttk tnm tft = some (bI (decide (j = 2)), tnu', a, b, c, e, if j = 2 then tft else b) ∧ CS tb len (sq tb len q j) a b c e ∧ (∀ i', i' < j → tnu' i' = nI (tvq tb len (sq tb len q i'))) := by
  obtain ⟨a, b, c, e, es, ec⟩ := stepC h hq tsr ttk tnm
  unfold T_takeNumbers2
  rw [es, bd4_s]
  exact num2_L h hq tft 2 0 FU tnu a b c e (by omega) (by unfold FU; omega) ec (fun j hj => absurd hj (by omega)) (fun j hj => absurd hj (by omega))
theorem num6_L {len q : Nat} {tb : Nat → Nat} {tby tx : Nat → Int32} (h : TX len tb tby tx) (hq : q ≤ len) (tft : Int32) : ∀ d i fuel tnu tat tsr ttk tnm, i + d = 6 → d < fuel → CS tb len (sq tb len q i) tat tsr ttk tnm → (∀ j, j < i → ok6 tb len q j = true) → (∀ j, j < i → tnu j = nI (tvq tb len (sq tb len q j))) → ∃ j tnu' a b c e, frs (ok6 tb len q) 6 j ∧ T_takeNumbers6_L6 fuel (nI i) tby tnu (nI len) tat tsr ttk tnm tft = some (bI (decide (j = 6)), tnu', a, b, c, e, if j = 6 then tft else b) ∧ CS tb len (sq tb len q j) a b c e ∧ (∀ i', i' < j → tnu' i' = nI (tvq tb len (sq tb len q i'))) := by
  have h150 := h.1
  intro d
  induction d with
  | zero =>
    intro i fuel tnu tat tsr ttk tnm hi hf hC ho ht
    obtain ⟨g, rfl⟩ := fuel1 hf
    have hi : i = 6 := by omega
    subst hi
    refine ⟨6, tnu, tat, tsr, ttk, tnm, ⟨Nat.le_refl _, ho, fun q => absurd q (by omega)⟩, ?_, hC, ht⟩
    rw [T_takeNumbers6_L6, T_takeNumbers6_6, if_pos (show (6 : Int32) ≤ nI 6 by decide), if_pos rfl]
    rfl
  | succ d ih =>
    intro i fuel tnu tat tsr ttk tnm hi hf hC ho ht
    obtain ⟨g, rfl⟩ := fuel1 hf
    have hs := sq_le (tb := tb) hq i
    obtain ⟨rfl, rfl, rfl, hv⟩ := hC
    have bad : ok6 tb len q i = false → ∃ j tnu' a b c e, frs (ok6 tb len q) 6 j ∧ T_takeNumbers6_51 tby tnu (nI len) (nI (nxq tb len (sq tb len q i))) (nI (tbeg tb len (sq tb len q i))) (nI (tkq tb len (sq tb len q i))) tnm tft = some (bI (decide (j = 6)), tnu', a, b, c, e, if j = 6 then tft else b) ∧ CS tb len (sq tb len q j) a b c e ∧ (∀ i', i' < j → tnu' i' = nI (tvq tb len (sq tb len q i'))) := by
      intro z
      refine ⟨i, tnu, _, _, _, _, ⟨by omega, ho, fun _ => z⟩, ?_, ⟨rfl, rfl, rfl, hv⟩, ht⟩
      unfold T_takeNumbers6_51
      rw [if_neg (show ¬ i = 6 by omega), decide_eq_false (show ¬ i = 6 by omega)]
      rfl
    have z6 : ¬ (6 : Int32) ≤ nI i := nI_ge (a := i) (b := 6) (by omega) (by omega)
    have z6' : ¬ (6 : Int32) ≤ nI i := nI_ge (a := i) (b := 6) (by omega) (by omega)
    rw [T_takeNumbers6_L6, T_takeNumbers6_6, if_neg z6, if_neg z6, if_neg z6']
    have k6 := tkq_le tb len (sq tb len q i)
    by_cases k4 : tkq tb len (sq tb len q i) = 4
    · rw [if_pos (show nI (tkq tb len (sq tb len q i)) = 4 by rw [k4]; rfl), inb_t (n := 6) (by omega) (by omega), within_w, nI_clamp (by omega)]
      simp only [ck]
      rw [bd1_s, ite_10]
      by_cases z : ok6 tb len q i = true
      · have z' := okn_t.mp z
        rw [hv k4, if_pos z'.2]
        simp only [bnd]
        obtain ⟨a, b, c, e, es, ec⟩ := stepC h (nxq_le (tb := tb) hs.2).2.2.2.1 (nI (tbeg tb len (sq tb len q i))) (nI (tkq tb len (sq tb len q i))) (nI (tvq tb len (sq tb len q i)))
        rw [es, bd4_s, nI_1]
        refine ih (i + 1) g _ a b c e (by omega) (by omega) ec (fun j hj => ?_) (fun j hj => ?_)
        · by_cases e : j = i
          · rw [e]; exact z
          · exact ho j (by omega)
        · by_cases e : j = i
          · rw [e, pk_us]
          · rw [pk_un e]; exact ht j (by omega)
      · rw [if_neg (fun x => z (okn_t.mpr ⟨k4, by rw [hv k4] at x; exact x⟩))]
        exact bad (Bool.eq_false_iff.mpr z)
    · rw [if_neg (show ¬ nI (tkq tb len (sq tb len q i)) = 4 from fun x => k4 ((nI_eq (by omega) (by omega)).mp (show nI (tkq tb len (sq tb len q i)) = nI 4 from x)))]
      exact bad (Bool.eq_false_iff.mpr (fun x => k4 (okn_t.mp x).1))
theorem num6_N {len q : Nat} {tb : Nat → Nat} {tby tx : Nat → Int32} (h : TX len tb tby tx) (hq : q ≤ len) (tnu : Nat → Int32) (tsr ttk tnm tft : Int32) : ∃ j tnu' a b c e, frs (ok6 tb len q) 6 j ∧ T_takeNumbers6 tby tnu (nI len) (nI q) tsr ttk tnm tft = some (bI (decide (j = 6)), tnu', a, b, c, e, if j = 6 then tft else b) ∧ CS tb len (sq tb len q j) a b c e ∧ (∀ i', i' < j → tnu' i' = nI (tvq tb len (sq tb len q i'))) := by
  obtain ⟨a, b, c, e, es, ec⟩ := stepC h hq tsr ttk tnm
  unfold T_takeNumbers6
  rw [es, bd4_s]
  exact num6_L h hq tft 6 0 FU tnu a b c e (by omega) (by unfold FU; omega) ec (fun j hj => absurd hj (by omega)) (fun j hj => absurd hj (by omega))
theorem shipM {len q : Nat} {tb : Nat → Nat} {tby tx : Nat → Int32} (h : TX len tb tby tx) (hq : q ≤ len) (w : Nat → Int32) (sp iw ig : Int32) (nu : Nat → Int32) : ∃ j w' a b c d nu', frs (ok2 tb len q) 2 j ∧ M_takesShip w tx (nI len) (nI q) sp iw ig nu = some (bI (decide (j = 2)), w', a, b, c, d, nu') ∧ (j < 2 → w' = w ∧ b = nI (tbeg tb len (sq tb len q j))) ∧ (j = 2 → a = nI (sq tb len q 2) ∧ w' = upd (upd w 241 (nI (tvq tb len (sq tb len q 0)))) 242 (nI (tvq tb len (sq tb len q 1)))) := by
  unfold M_takesShip
  obtain ⟨a0, b0, c0, d0, u0, e0, m0, n0⟩ := takes_N h (sq_le (tb := tb) hq 0).2 (i := 0) (by omega) 0 99 sp iw ig nu
  have g0 : a0 = nI (sq tb len q 1) := m0.1
  rw [show M_takes 0 0 99 tx (nI len) (nI q) sp iw ig nu = _ from e0, bd6_s, bI_ite]
  by_cases k0 : okn tb len (sq tb len q 0) 0 99 = true
  case neg =>
    rw [if_neg k0]
    refine ⟨0, _, _, _, _, _, _, ⟨by omega, fun i hi => absurd hi (by omega), fun _ => Bool.eq_false_iff.mpr k0⟩, rfl, fun _ => ⟨rfl, m0.2.1⟩, fun e => absurd e (by omega)⟩
  rw [if_pos k0]
  obtain ⟨a1, b1, c1, d1, u1, e1, m1, n1⟩ := takes_N h (sq_le (tb := tb) hq 1).2 (i := 1) (by omega) 0 200 b0 c0 d0 u0
  have g1 : a1 = nI (sq tb len q 2) := m1.1
  rw [g0, show M_takes 1 0 200 tx (nI len) (nI (sq tb len q 1)) b0 c0 d0 u0 = _ from e1, bd6_s, bI_ite]
  by_cases k1 : okn tb len (sq tb len q 1) 0 200 = true
  case neg =>
    rw [if_neg k1]
    refine ⟨1, _, _, _, _, _, _, ⟨by omega, fun i hi => ?_, fun _ => Bool.eq_false_iff.mpr k1⟩, rfl, fun _ => ⟨rfl, m1.2.1⟩, fun e => absurd e (by omega)⟩
    have : i = 0 := by omega
    rw [this]; exact k0
  rw [if_pos k1]
  refine ⟨2, _, _, _, _, _, _, ⟨by omega, fun i hi => ?_, fun e => absurd e (by omega)⟩, rfl, fun e => absurd e (by omega), fun _ => ⟨g1, ?_⟩⟩
  · rcases (show i = 0 ∨ i = 1 by omega) with rfl | rfl
    · exact k0
    · exact k1
  · rw [n1 k1, n0 k0]
    rfl
theorem goodsM {len q : Nat} {tb : Nat → Nat} {tby tx : Nat → Int32} (h : TX len tb tby tx) (hq : q ≤ len) {n ab : Nat} {w : Nat → Int32} (hn : n < 8) (w0 : w 240 = nI n) (w5 : w 245 = nI ab) (h8 : ¬ w 240 = 8) (sp iw ig : Int32) (nu : Nat → Int32) : ∃ j w' a b c d nu', frs (ok6 tb len q) 6 j ∧ M_takesGoods w tx (nI len) (nI q) sp iw ig nu = some (bI (decide (j = 6)), w', a, b, c, d, nu') ∧ (j < 6 → w' = w ∧ b = nI (tbeg tb len (sq tb len q j))) ∧ (j = 6 → a = nI (sq tb len q 6) ∧ w' = addW w 240 n ab (nI (tvq tb len (sq tb len q 0))) (nI (tvq tb len (sq tb len q 1))) (nI (tvq tb len (sq tb len q 2))) (nI (tvq tb len (sq tb len q 3))) (nI (tvq tb len (sq tb len q 4))) (nI (tvq tb len (sq tb len q 5)))) := by
  unfold M_takesGoods
  rw [if_neg h8]
  obtain ⟨a0, b0, c0, d0, u0, e0, m0, n0⟩ := takes_N h (sq_le (tb := tb) hq 0).2 (i := 0) (by omega) 0 5 sp iw ig nu
  have g0 : a0 = nI (sq tb len q 1) := m0.1
  rw [show M_takes 0 0 5 tx (nI len) (nI q) sp iw ig nu = _ from e0, bd6_s, bI_ite]
  by_cases k0 : okn tb len (sq tb len q 0) 0 5 = true
  case neg =>
    rw [if_neg k0]
    refine ⟨0, _, _, _, _, _, _, ⟨by omega, fun i hi => absurd hi (by omega), fun _ => Bool.eq_false_iff.mpr k0⟩, rfl, fun _ => ⟨rfl, m0.2.1⟩, fun e => absurd e (by omega)⟩
  rw [if_pos k0]
  obtain ⟨a1, b1, c1, d1, u1, e1, m1, n1⟩ := takes_N h (sq_le (tb := tb) hq 1).2 (i := 1) (by omega) 0 3 b0 c0 d0 u0
  have g1 : a1 = nI (sq tb len q 2) := m1.1
  rw [g0, show M_takes 1 0 3 tx (nI len) (nI (sq tb len q 1)) b0 c0 d0 u0 = _ from e1, bd6_s, bI_ite]
  by_cases k1 : okn tb len (sq tb len q 1) 0 3 = true
  case neg =>
    rw [if_neg k1]
    refine ⟨1, _, _, _, _, _, _, ⟨by omega, fun i hi => ?_, fun _ => Bool.eq_false_iff.mpr k1⟩, rfl, fun _ => ⟨rfl, m1.2.1⟩, fun e => absurd e (by omega)⟩
    have : i = 0 := by omega
    rw [this]; exact k0
  rw [if_pos k1]
  obtain ⟨a2, b2, c2, d2, u2, e2, m2, n2⟩ := takes_N h (sq_le (tb := tb) hq 2).2 (i := 2) (by omega) 0 2 b1 c1 d1 u1
  have g2 : a2 = nI (sq tb len q 3) := m2.1
  rw [g1, show M_takes 2 0 2 tx (nI len) (nI (sq tb len q 2)) b1 c1 d1 u1 = _ from e2, bd6_s, bI_ite]
  by_cases k2 : okn tb len (sq tb len q 2) 0 2 = true
  case neg =>
    rw [if_neg k2]
    refine ⟨2, _, _, _, _, _, _, ⟨by omega, fun i hi => ?_, fun _ => Bool.eq_false_iff.mpr k2⟩, rfl, fun _ => ⟨rfl, m2.2.1⟩, fun e => absurd e (by omega)⟩
    rcases (show i = 0 ∨ i = 1 by omega) with rfl | rfl
    · exact k0
    · exact k1
  rw [if_pos k2]
  obtain ⟨a3, b3, c3, d3, u3, e3, m3, n3⟩ := takes_N h (sq_le (tb := tb) hq 3).2 (i := 3) (by omega) 1 40 b2 c2 d2 u2
  have g3 : a3 = nI (sq tb len q 4) := m3.1
  rw [g2, show M_takes 3 1 40 tx (nI len) (nI (sq tb len q 3)) b2 c2 d2 u2 = _ from e3, bd6_s, bI_ite]
  by_cases k3 : okn tb len (sq tb len q 3) 1 40 = true
  case neg =>
    rw [if_neg k3]
    refine ⟨3, _, _, _, _, _, _, ⟨by omega, fun i hi => ?_, fun _ => Bool.eq_false_iff.mpr k3⟩, rfl, fun _ => ⟨rfl, m3.2.1⟩, fun e => absurd e (by omega)⟩
    rcases (show i = 0 ∨ i = 1 ∨ i = 2 by omega) with rfl | rfl | rfl
    · exact k0
    · exact k1
    · exact k2
  rw [if_pos k3]
  obtain ⟨a4, b4, c4, d4, u4, e4, m4, n4⟩ := takes_N h (sq_le (tb := tb) hq 4).2 (i := 4) (by omega) 0 60 b3 c3 d3 u3
  have g4 : a4 = nI (sq tb len q 5) := m4.1
  rw [g3, show M_takes 4 0 60 tx (nI len) (nI (sq tb len q 4)) b3 c3 d3 u3 = _ from e4, bd6_s, bI_ite]
  by_cases k4 : okn tb len (sq tb len q 4) 0 60 = true
  case neg =>
    rw [if_neg k4]
    refine ⟨4, _, _, _, _, _, _, ⟨by omega, fun i hi => ?_, fun _ => Bool.eq_false_iff.mpr k4⟩, rfl, fun _ => ⟨rfl, m4.2.1⟩, fun e => absurd e (by omega)⟩
    rcases (show i = 0 ∨ i = 1 ∨ i = 2 ∨ i = 3 by omega) with rfl | rfl | rfl | rfl
    · exact k0
    · exact k1
    · exact k2
    · exact k3
  rw [if_pos k4]
  obtain ⟨a5, b5, c5, d5, u5, e5, m5, n5⟩ := takes_N h (sq_le (tb := tb) hq 5).2 (i := 5) (by omega) 0 60 b4 c4 d4 u4
  have g5 : a5 = nI (sq tb len q 6) := m5.1
  rw [g4, show M_takes 5 0 60 tx (nI len) (nI (sq tb len q 5)) b4 c4 d4 u4 = _ from e5, bd6_s, bI_ite]
  by_cases k5 : okn tb len (sq tb len q 5) 0 60 = true
  case neg =>
    rw [if_neg k5]
    refine ⟨5, _, _, _, _, _, _, ⟨by omega, fun i hi => ?_, fun _ => Bool.eq_false_iff.mpr k5⟩, rfl, fun _ => ⟨rfl, m5.2.1⟩, fun e => absurd e (by omega)⟩
    rcases (show i = 0 ∨ i = 1 ∨ i = 2 ∨ i = 3 ∨ i = 4 by omega) with rfl | rfl | rfl | rfl | rfl
    · exact k0
    · exact k1
    · exact k2
    · exact k3
    · exact k4
  rw [if_pos k5]
  have ha := madds_N (o := 240) (by omega) hn w0 w5 (u5 0) (u5 1) (u5 2) (u5 3) (u5 4) (u5 5)
  rw [show M_adds 240 (u5 0) (u5 1) (u5 2) (u5 3) (u5 4) (u5 5) w = _ from ha, bd2_s, if_neg (nI_pos (by omega))]
  refine ⟨6, _, _, _, _, _, _, ⟨by omega, fun i hi => ?_, fun e => absurd e (by omega)⟩, rfl, fun e => absurd e (by omega), fun _ => ⟨g5, ?_⟩⟩
  · rcases (show i = 0 ∨ i = 1 ∨ i = 2 ∨ i = 3 ∨ i = 4 ∨ i = 5 by omega) with rfl | rfl | rfl | rfl | rfl | rfl
    · exact k0
    · exact k1
    · exact k2
    · exact k3
    · exact k4
    · exact k5
  · rw [n5 k5, n4 k4, n3 k3, n2 k2, n1 k1, n0 k0]
    rfl
