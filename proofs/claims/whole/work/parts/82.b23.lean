/-! PURE: reading: items -/
/-- the draft on both sides -/
def RD (dsw dca dsi dab dun dsg : Int32) (dfa w : Nat → Int32) : Prop :=
  ∃ (n b sv cv u : Nat) (K : Nat → Nat → Nat), n ≤ 8 ∧ b < 2 ^ n ∧ sv ≤ 99 ∧ cv ≤ 200 ∧ u + pop b ≤ 8 ∧
    dsi = nI n ∧ dab = nI b ∧ dsw = nI sv ∧ dca = nI cv ∧ dun = nI u ∧ dsg = 0 ∧
    w 240 = nI n ∧ w 241 = nI sv ∧ w 242 = nI cv ∧ w 243 = 0 ∧ w 244 = 0 ∧ w 245 = nI b ∧ GCv n K dfa ∧ GMv n K w 240 ∧ KB n K
theorem heave_N {n b u k : Nat} {he : Nat → Int32} (hn : n ≤ 8) (hk : k < n) (hu : u < 8) : C_heave (nI k) (nI n) (nI b) (nI u) he = some (nI (sdf b (2 ^ k)), nI (u + 1), upd he u (nI k)) := by
  unfold C_heave
  rw [chas_N (by omega) (by omega), bd1_s, ite_10, if_pos hk, if_neg (show ¬ (8 : Int32) ≤ nI u from nI_ge (a := u) (b := 8) (by omega) (by omega)), shl_N (by omega), andn_N, inb_t (by omega) (by omega), nI_clamp (by omega), nI_1]
  rfl
theorem ctop_out {n b k : Nat} {fc : Nat → Int32} (hn : n ≤ 8) (hk : k < 1000) (h : ¬ k < n) : C_isTop (nI k) (nI b) (nI n) fc = some 0 := by
  unfold C_isTop
  rw [chas_N (by omega) (by omega), if_neg h, bd1_s, if_pos rfl]
theorem okn_n {tb : Nat → Nat} {len q n : Nat} (hn : n ≤ 8) (h4 : tkq tb len q = 4) : okn tb len q 0 (nI n - 1) = decide (tvq tb len q < n) := by
  have hv := tvq_lt h4
  have e : (okn tb len q 0 (nI n - 1) = true) ↔ (tvq tb len q < n) := by
    rw [okn_t]
    cases n with
    | zero =>
      refine ⟨fun h => ?_, fun h => absurd h (by omega)⟩
      have h1 : nI (tvq tb len q) ≤ (-1 : Int32) := h.2.2
      exact absurd (Int32.lt_of_le_of_lt h1 (show (-1 : Int32) < 0 by decide)) (nI_pos (by omega))
    | succ m =>
      rw [nI_pred]
      refine ⟨fun h => ?_, fun h => ⟨h4, nI_pos' (by omega), nI_le (by omega) (by omega)⟩⟩
      have := (nI_leI (by omega) (by omega)).mp h.2.2
      omega
  by_cases c : tvq tb len q < n
  · rw [decide_eq_true c]; exact e.mpr c
  · rw [decide_eq_false c]; exact Bool.eq_false_iff.mpr (fun x => c (e.mp x))
theorem over_N {len q : Nat} {tb : Nat → Nat} {tby tx : Nat → Int32} {dsw dca dsi dab dun dsg : Int32} {dfa dhe w : Nat → Int32} (h : TX len tb tby tx) (hq : q ≤ len) (hD : RD dsw dca dsi dab dun dsg dfa w) (tsr ttk tnm sp iw ig : Int32) (nu : Nat → Int32) :
    ∃ a b c e tft' ab' un' he' r w' ap' sp' iw' ig' nu', T_takeOver tby (nI len) (nI q) tsr ttk tnm (-1) dsi dab dun dfa dhe = some (a, b, c, e, tft', ab', un', he') ∧ M_takesOver w tx (nI len) (nI q) sp iw ig nu = some (r, w', ap', sp', iw', ig', nu') ∧ (∀ i, i < 240 → w' i = w i) ∧
      ((r = 0 ∧ ∃ f, f ≤ len ∧ tft' = nI f ∧ sp' = nI f) ∨ (r = 1 ∧ tft' = -1 ∧ ∃ q', q ≤ q' ∧ q' ≤ len ∧ ap' = nI q' ∧ CS tb len q' a b c e ∧ RD dsw dca dsi ab' un' dsg dfa w')) := by
  have h150 := h.1
  have hb := nxq_le (tb := tb) hq
  obtain ⟨n, b, sv, cv, u, K, hn, hbn, hsv, hcv, hu, rfl, rfl, rfl, rfl, rfl, rfl, w0, w1, w2, w3, w4, w5, hc, hm, hKB⟩ := hD
  have hb8 := lt256 hbn hn
  obtain ⟨a, b', c, e, es, ec⟩ := stepC h hq tsr ttk tnm
  obtain ⟨a0, b0, c0, d0, u0, e0, m0, n0⟩ := takes_N h hq (i := 0) (by omega) 0 (w 240 - 1) sp iw ig nu
  unfold T_takeOver M_takesOver
  rw [es, bd4_s, show M_takes 0 0 (w 240 - 1) tx (nI len) (nI q) sp iw ig nu = _ from e0, bd6_s, bI_ite]
  obtain ⟨rfl, rfl, rfl, hv⟩ := ec
  obtain ⟨rfl, rfl, rfl⟩ := m0
  have k6 := tkq_le tb len q
  by_cases k4 : tkq tb len q = 4
  case neg =>
    have ko : ¬ okn tb len q 0 (w 240 - 1) = true := fun x => k4 (okn_t.mp x).1
    rw [if_neg ko, if_neg (show ¬ nI (tkq tb len q) = 4 from fun x => k4 ((nI_eq (by omega) (by omega)).mp (show nI (tkq tb len q) = nI 4 from x)))]
    exact ⟨_, _, _, _, _, _, _, _, _, _, _, _, _, _, _, rfl, rfl, fun i hi => rfl, Or.inl ⟨rfl, _, hb.2.1, rfl, rfl⟩⟩
  rw [if_pos (show nI (tkq tb len q) = 4 by rw [k4]; rfl), hv k4]
  have hv3 := tvq_lt k4
  have eo := okn_n (n := n) hn k4
  rw [← w0] at eo
  by_cases kn : tvq tb len q < n
  case neg =>
    rw [decide_eq_false kn] at eo
    rw [eo, if_neg (by decide), ctop_out hn hv3 kn, bd1_s, if_pos rfl]
    exact ⟨_, _, _, _, _, _, _, _, _, _, _, _, _, _, _, rfl, rfl, fun i hi => rfl, Or.inl ⟨rfl, _, hb.2.1, rfl, rfl⟩⟩
  rw [decide_eq_true kn] at eo
  rw [eo, if_pos rfl, n0 eo, pk_us, w5, ctop_N hc hn (by omega) hKB kn, show M_isTop 240 (nI b) (nI (tvq tb len q)) (-1) 0 w = _ from mtop_0 (o := 240) (by omega) w0 hn (by omega) kn hKB hm, bd1_s, bd1_s, bI_ite, bI_ite]
  by_cases ht : topB n b (tvq tb len q) (fun k => K k 2) (fun i => decide (tvq tb len q < i)) = true
  case neg =>
    rw [if_neg ht, if_neg ht]
    exact ⟨_, _, _, _, _, _, _, _, _, _, _, _, _, _, _, rfl, rfl, fun i hi => rfl, Or.inl ⟨rfl, _, hb.2.1, rfl, rfl⟩⟩
  rw [if_pos ht, if_pos ht]
  have hbk : b.testBit (tvq tb len q) = true := by
    unfold topB at ht
    cases e : b.testBit (tvq tb len q)
    · rw [e] at ht; exact Bool.noConfusion ht
    · rfl
  have hp1 := pop_1 b hb8 _ (by omega) hbk
  obtain ⟨s1, s2⟩ := sub_bit hbk
  have hlt : sdf b (2 ^ tvq tb len q) < 2 ^ n := sdf_lt hbn
  have hpa := pop_add _ (lt256 hlt hn) _ (by omega) s2
  rw [s1] at hpa
  obtain ⟨a2, b2, c2, e2, es2, ec2⟩ := stepC h hb.2.2.2.1 (nI (tbeg tb len q)) (nI (tkq tb len q)) (nI (tvq tb len q))
  rw [heave_N hn kn (by omega), bd3_s, es2, bd4_s, shl_N (by omega), andn_N]
  refine ⟨_, _, _, _, _, _, _, _, _, _, _, _, _, _, _, rfl, rfl, fun i hi => pk_un (by omega), Or.inr ⟨rfl, rfl, nxq tb len q, by omega, hb.2.2.2.1, rfl, ec2, ?_⟩⟩
  refine ⟨n, sdf b (2 ^ tvq tb len q), sv, cv, u + 1, K, hn, hlt, hsv, hcv, by omega, rfl, rfl, rfl, rfl, rfl, rfl, ?_, ?_, ?_, ?_, ?_, pk_us, hc, ?_, hKB⟩
  · rw [pk_un (by omega)]; exact w0
  · rw [pk_un (by omega)]; exact w1
  · rw [pk_un (by omega)]; exact w2
  · rw [pk_un (by omega)]; exact w3
  · rw [pk_un (by omega)]; exact w4
  · intro k2 j2 hk2 hj2
    rw [pk_un (by omega)]
    exact hm k2 j2 hk2 hj2
/-- a ship -/
theorem ship_N {len q : Nat} {tb : Nat → Nat} {tby tx : Nat → Int32} {w : Nat → Int32} (h : TX len tb tby tx) (hq : q ≤ len) (w0 : w 240 = 0) (w3 : w 243 = 0) (w4 : w 244 = 0) (w5 : w 245 = 0) (tnu dfa : Nat → Int32) (tsr ttk tnm sp iw ig : Int32) (nu : Nat → Int32) :
    ∃ r tnu' a b c e tft' w' ap' sp' iw' ig' nu', T_takeNumbers2 tby tnu (nI len) (nI q) tsr ttk tnm (-1) = some (r, tnu', a, b, c, e, tft') ∧ M_takesShip w tx (nI len) (nI q) sp iw ig nu = some (r, w', ap', sp', iw', ig', nu') ∧ (∀ i, i < 240 → w' i = w i) ∧
      ((r = 0 ∧ ∃ f, f ≤ len ∧ tft' = nI f ∧ sp' = nI f) ∨ (r = 1 ∧ tft' = -1 ∧ ∃ q', q ≤ q' ∧ q' ≤ len ∧ ap' = nI q' ∧ CS tb len q' a b c e ∧ RD (tnu' 0) (tnu' 1) 0 0 0 0 dfa w')) := by
  obtain ⟨j, tnu', a, b, c, e, fj, ej, cj, vj⟩ := num2_N h hq tnu tsr ttk tnm (-1)
  obtain ⟨k, w', ap', sp', iw', ig', nu', fk, ek, gk, hk⟩ := shipM h hq w sp iw ig nu
  have := frs_u fj fk
  subst this
  by_cases j2 : j = 2
  · subst j2
    obtain ⟨h1, h2⟩ := hk rfl
    subst h1
    have l0 := fj.2.1 0 (by omega)
    have l1 := fj.2.1 1 (by omega)
    refine ⟨_, _, _, _, _, _, _, _, _, _, _, _, _, ej, ek, fun i hi => by rw [h2, pk_un (by omega), pk_un (by omega)], Or.inr ⟨rfl, rfl, sq tb len q 2, (sq_le hq 2).1, (sq_le hq 2).2, rfl, cj, ?_⟩⟩
    rw [vj 0 (by omega), vj 1 (by omega), h2]
    refine ⟨0, 0, tvq tb len (sq tb len q 0), tvq tb len (sq tb len q 1), 0, fun _ _ => 0, by omega, by omega, okn_hi (m := 99) l0 (by omega), okn_hi (m := 200) l1 (by omega), by decide, rfl, rfl, rfl, rfl, rfl, rfl, ?_, ?_, pk_us, ?_, ?_, ?_, fun k j hk => absurd hk (by omega), fun k j hk => absurd hk (by omega), fun k hk => absurd hk (by omega)⟩
    · rw [pk_un (by omega), pk_un (by omega)]; exact w0
    · rw [pk_un (by omega), pk_us]
    · rw [pk_un (by omega), pk_un (by omega)]; exact w3
    · rw [pk_un (by omega), pk_un (by omega)]; exact w4
    · rw [pk_un (by omega), pk_un (by omega)]; exact w5
  · have jl : j < 2 := by have := fj.1; omega
    obtain ⟨h1, h2⟩ := gk jl
    refine ⟨_, _, _, _, _, _, _, _, _, _, _, _, _, ej, ek, fun i hi => by rw [h1], Or.inl ⟨by rw [decide_eq_false j2]; rfl, tbeg tb len (sq tb len q j), (nxq_le (sq_le hq j).2).2.1, ?_, h2⟩⟩
    rw [if_neg j2]
    exact cj.2.1
/-- goods -/
theorem goods_N {len q n b sv cv : Nat} {K : Nat → Nat → Nat} {tb : Nat → Nat} {tby tx : Nat → Int32} {dfa w : Nat → Int32} (h : TX len tb tby tx) (hq : q ≤ len) (hn : n < 8) (hbn : b < 2 ^ n) (hsv : sv ≤ 99) (hcv : cv ≤ 200) (w0 : w 240 = nI n) (w1 : w 241 = nI sv) (w2 : w 242 = nI cv) (w3 : w 243 = 0) (w4 : w 244 = 0) (w5 : w 245 = nI b) (hc : GCv n K dfa) (hm : GMv n K w 240) (hKB : KB n K) (tnu : Nat → Int32) (tsr ttk tnm sp iw ig : Int32) (nu : Nat → Int32) :
    ∃ r tnu' a b' c e tft' w' ap' sp' iw' ig' nu', T_takeNumbers6 tby tnu (nI len) (nI q) tsr ttk tnm (-1) = some (r, tnu', a, b', c, e, tft') ∧ M_takesGoods w tx (nI len) (nI q) sp iw ig nu = some (r, w', ap', sp', iw', ig', nu') ∧ (∀ i, i < 240 → w' i = w i) ∧
      ((r = 0 ∧ ∃ f, f ≤ len ∧ tft' = nI f ∧ sp' = nI f) ∨ (r = 1 ∧ tft' = -1 ∧ ∃ q', q ≤ q' ∧ q' ≤ len ∧ ap' = nI q' ∧ CS tb len q' a b' c e ∧ RD (nI sv) (nI cv) (nI (n + 1)) (nI (b ||| 2 ^ n)) 0 0 (va_cpy tnu' dfa 0 (n * 6) 6) w')) := by
  obtain ⟨j, tnu', a, b', c, e, fj, ej, cj, vj⟩ := num6_N h hq tnu tsr ttk tnm (-1)
  have h8 : ¬ w 240 = 8 := by
    rw [w0]
    exact fun x => absurd ((nI_eq (by omega) (by omega)).mp (show nI n = nI 8 from x)) (by omega)
  obtain ⟨k, w', ap', sp', iw', ig', nu', fk, ek, gk, hk⟩ := goodsM h hq hn w0 w5 h8 sp iw ig nu
  have := frs_u fj fk
  subst this
  by_cases j6 : j = 6
  · subst j6
    obtain ⟨h1, h2⟩ := hk rfl
    subst h1
    have l0 := fj.2.1 0 (by omega)
    have l1 := fj.2.1 1 (by omega)
    have l2 := fj.2.1 2 (by omega)
    have l3 := fj.2.1 3 (by omega)
    have l4 := fj.2.1 4 (by omega)
    have l5 := fj.2.1 5 (by omega)
    refine ⟨_, _, _, _, _, _, _, _, _, _, _, _, _, ej, ek, fun i hi => by rw [h2, addW_out hn (Or.inl hi)], Or.inr ⟨rfl, rfl, sq tb len q 6, (sq_le hq 6).1, (sq_le hq 6).2, rfl, cj, ?_⟩⟩
    rw [h2]
    have hlt : b ||| 2 ^ n < 2 ^ (n + 1) := or_lt (Nat.lt_of_lt_of_le hbn (Nat.pow_le_pow_right (by omega) (by omega))) (by omega)
    refine ⟨n + 1, b ||| 2 ^ n, sv, cv, 0, six (fun j => tvq tb len (sq tb len q j)) n K, by omega, hlt, hsv, hcv, by have := pop_le _ (lt256 hlt (by omega)); omega, rfl, rfl, rfl, rfl, rfl, rfl, pk_us, ?_, ?_, ?_, ?_, ?_, load_in hn hc vj, addW_in (v := fun j => tvq tb len (sq tb len q j)) hn hm, six_KB hKB ⟨okn_hi (m := 5) l0 (by omega), okn_hi (m := 3) l1 (by omega), okn_hi (m := 2) l2 (by omega), okn_lo (m := 1) l3 (by omega), okn_hi (m := 40) l3 (by omega), okn_hi (m := 60) l4 (by omega), okn_hi (m := 60) l5 (by omega)⟩⟩
    · rw [addW_out hn (Or.inr (Or.inr ⟨by omega, by omega⟩))]; exact w1
    · rw [addW_out hn (Or.inr (Or.inr ⟨by omega, by omega⟩))]; exact w2
    · rw [addW_out hn (Or.inr (Or.inr ⟨by omega, by omega⟩))]; exact w3
    · rw [addW_out hn (Or.inr (Or.inr ⟨by omega, by omega⟩))]; exact w4
    · unfold addW
      rw [pk_un (by omega), pk_us]
  · have jl : j < 6 := by have := fj.1; omega
    obtain ⟨h1, h2⟩ := gk jl
    refine ⟨_, _, _, _, _, _, _, _, _, _, _, _, _, ej, ek, fun i hi => by rw [h1], Or.inl ⟨by rw [decide_eq_false j6]; rfl, tbeg tb len (sq tb len q j), (nxq_le (sq_le hq j).2).2.1, ?_, h2⟩⟩
    rw [if_neg j6]
    exact cj.2.1
