/-! PURE: reading: an item -/
/-- what stands before an item -/
def RS (it : Nat) (dsw dca dsi dab dun dsg : Int32) (dfa w : Nat → Int32) : Prop := (it = 0 ∧ w 240 = 0 ∧ w 243 = 0 ∧ w 244 = 0 ∧ w 245 = 0) ∨ (0 < it ∧ RD dsw dca dsi dab dun dsg dfa w)
theorem no60 (w tx : Nat → Int32) (td ap sp iw ig : Int32) (nu : Nat → Int32) : M_takesItem_60 0 w tx td ap sp iw ig nu = some (0, w, ap, sp, iw, ig, nu) := rfl
theorem item_N {len p it : Nat} {tb : Nat → Nat} {tby tx : Nat → Int32} {tat tsr ttk tnm ap sp iw : Int32} {dsw dca dsi dab dun dsg : Int32} {dfa w : Nat → Int32} (h : TX len tb tby tx) (hp : p ≤ len) (hit : it ≤ 150) (hC : CS tb len p tat tsr ttk tnm) (hM : MS tb len p ap sp iw) (hD : RS it dsw dca dsi dab dun dsg dfa w) (tnu dhe : Nat → Int32) (ig : Int32) (nu : Nat → Int32) :
    ∃ tnu' a b c e tft' dsw' dca' dsi' dab' dun' dsg' dfa' dhe' r w' ap' sp' iw' ig' nu', T_readItem tby tnu (nI len) tat tsr ttk tnm (nI it) (-1) dsw dca dsi dab dun dsg dfa dhe = some (tnu', a, b, c, e, tft', dsw', dca', dsi', dab', dun', dsg', dfa', dhe') ∧ M_takesItem (nI it) w tx (nI len) ap sp iw ig nu = M_takesItem_60 r w' tx (nI len) ap' sp' iw' ig' nu' ∧ (∀ i, i < 240 → w' i = w i) ∧
      ((r = 0 ∧ ∃ f, f ≤ len ∧ tft' = nI f ∧ sp' = nI f) ∨ (r = 1 ∧ tft' = -1 ∧ ∃ q, p ≤ q ∧ q ≤ len ∧ ap' = nI q ∧ CS tb len q a b c e ∧ RD dsw' dca' dsi' dab' dun' dsg' dfa' w')) := by
  have h150 := h.1
  have hb := nxq_le (tb := tb) hp
  have k6 := tkq_le tb len p
  have hw := wordM h hp hM
  obtain ⟨rfl, rfl, hk, hv⟩ := hC
  obtain ⟨rfl, rfl, -⟩ := hM
  unfold M_takesItem T_readItem
  rw [hw, bd1_s]
  by_cases k1 : tkq tb len p = 1
  · rw [k1] at hk ⊢
    subst hk
    rw [show wnk 1 = 0 from rfl, if_neg (show ¬ (0 : Int32) = -1 by decide), if_pos rfl, if_pos (show nI 1 = (1 : Int32) from rfl)]
    unfold M_takesItem_19 M_takesItem_28
    rcases hD with ⟨rfl, w0, w3, w4, w5⟩ | ⟨hi0, hD⟩
    · rw [if_pos (show nI 0 = (0 : Int32) from rfl), if_pos (show nI 0 = (0 : Int32) from rfl), if_pos rfl, if_pos rfl]
      obtain ⟨r, tnu', a, b, c, e, tft', w', ap', sp', iw', ig', nu', es, em, ew, ef⟩ := ship_N h hb.2.2.2.1 w0 w3 w4 w5 tnu dfa (nI (tbeg tb len p)) (nI 1) tnm (nI (tbeg tb len p)) iw ig nu
      rw [es, em, bd7_s, bd7_s]
      rcases ef with ⟨rfl, f, hf, e1, e2⟩ | ⟨rfl, e1, q, hq1, hq2, e2, e3, e4⟩
      · rw [if_pos rfl]
        exact ⟨_, _, _, _, _, _, _, _, _, _, _, _, _, _, _, _, _, _, _, _, _, rfl, rfl, ew, Or.inl ⟨rfl, f, hf, e1, e2⟩⟩
      · rw [if_neg (by decide)]
        unfold C_restart
        rw [bd6_s]
        exact ⟨_, _, _, _, _, _, _, _, _, _, _, _, _, _, _, _, _, _, _, _, _, rfl, rfl, ew, Or.inr ⟨rfl, e1, q, by omega, hq2, e2, e3, e4⟩⟩
    · have zi : ¬ nI it = (0 : Int32) := nI_ne0 hi0 (by omega)
      rw [if_neg zi, if_neg zi, if_neg (show ¬ (1 : Int32) = 0 by decide)]
      unfold T_readItem_47 T_readItem_96 T_readItem_119
      rw [if_neg (show ¬ nI 1 = (2 : Int32) by decide), if_neg (show ¬ nI 1 = (3 : Int32) by decide)]
      exact ⟨_, _, _, _, _, _, _, _, _, _, _, _, _, _, _, _, _, _, _, _, _, rfl, (no60 _ _ _ _ _ _ _ _).symm, fun i hi => rfl, Or.inl ⟨rfl, _, hb.2.1, rfl, rfl⟩⟩
  have z1 : ¬ ttk = 1 := by
    rw [hk]
    exact fun x => k1 ((nI_eq (by omega) (by omega)).mp (show nI (tkq tb len p) = nI 1 from x))
  rw [if_neg z1]
  unfold T_readItem_47
  by_cases k2 : tkq tb len p = 2
  · rw [k2] at hk ⊢
    subst hk
    rw [show wnk 2 = 1 from rfl, if_neg (show ¬ (1 : Int32) = -1 by decide), if_neg (show ¬ (1 : Int32) = 0 by decide), if_pos (show nI 2 = (2 : Int32) from rfl)]
    unfold M_takesItem_19 M_takesItem_28
    rcases hD with ⟨rfl, w0, w3, w4, w5⟩ | ⟨hi0, hD⟩
    · rw [if_pos (show nI 0 = (0 : Int32) from rfl), if_pos (show nI 0 ≤ (0 : Int32) by decide), if_neg (show ¬ (0 : Int32) = 1 by decide)]
      unfold T_readItem_96 T_readItem_119
      rw [if_neg (show ¬ nI 2 = (3 : Int32) by decide)]
      exact ⟨_, _, _, _, _, _, _, _, _, _, _, _, _, _, _, _, _, _, _, _, _, rfl, (no60 _ _ _ _ _ _ _ _).symm, fun i hi => rfl, Or.inl ⟨rfl, _, hb.2.1, rfl, rfl⟩⟩
    · have zi : ¬ nI it = (0 : Int32) := nI_ne0 hi0 (by omega)
      have zj : ¬ nI it ≤ (0 : Int32) := nI_nle hi0 (by omega)
      obtain ⟨n, b, sv, cv, u, K, hn, hbn, hsv, hcv, hu, rfl, rfl, rfl, rfl, rfl, rfl, w0, w1, w2, w3, w4, w5, hc, hm, hKB⟩ := hD
      rw [if_neg zi, if_neg zj, if_pos rfl, if_neg (show ¬ (1 : Int32) = 0 by decide), if_pos rfl]
      by_cases n8 : n = 8
      · subst n8
        unfold M_takesGoods
        rw [if_pos (show (8 : Int32) ≤ nI 8 by decide), if_pos (show w 240 = 8 from w0), bd7_s]
        unfold T_readItem_96 T_readItem_119
        rw [if_neg (show ¬ nI 2 = (3 : Int32) by decide)]
        exact ⟨_, _, _, _, _, _, _, _, _, _, _, _, _, _, _, _, _, _, _, _, _, rfl, rfl, fun i hi => rfl, Or.inl ⟨rfl, _, hb.2.1, rfl, rfl⟩⟩
      · rw [if_neg (show ¬ (8 : Int32) ≤ nI n from nI_ge (a := n) (b := 8) (by omega) (by omega))]
        obtain ⟨r, tnu', a, b', c, e, tft', w', ap', sp', iw', ig', nu', es, em, ew, ef⟩ := goods_N h hb.2.2.2.1 (by omega) hbn hsv hcv w0 w1 w2 w3 w4 w5 hc hm hKB tnu (nI (tbeg tb len p)) (nI 2) tnm (nI (tbeg tb len p)) iw ig nu
        rw [es, em, bd7_s, bd7_s]
        rcases ef with ⟨rfl, f, hf, e1, e2⟩ | ⟨rfl, e1, q, hq1, hq2, e2, e3, e4⟩
        · rw [if_pos rfl]
          exact ⟨_, _, _, _, _, _, _, _, _, _, _, _, _, _, _, _, _, _, _, _, _, rfl, rfl, ew, Or.inl ⟨rfl, f, hf, e1, e2⟩⟩
        · rw [if_neg (by decide), load_N (by omega), bd5_s]
          exact ⟨_, _, _, _, _, _, _, _, _, _, _, _, _, _, _, _, _, _, _, _, _, rfl, rfl, ew, Or.inr ⟨rfl, e1, q, by omega, hq2, e2, e3, e4⟩⟩
  have z2 : ¬ ttk = 2 := by
    rw [hk]
    exact fun x => k2 ((nI_eq (by omega) (by omega)).mp (show nI (tkq tb len p) = nI 2 from x))
  rw [if_neg z2]
  unfold T_readItem_96
  by_cases k3 : tkq tb len p = 3
  · rw [k3] at hk ⊢
    subst hk
    rw [show wnk 3 = 2 from rfl, if_neg (show ¬ (2 : Int32) = -1 by decide), if_neg (show ¬ (2 : Int32) = 0 by decide), if_pos (show nI 3 = (3 : Int32) from rfl)]
    unfold M_takesItem_19 M_takesItem_28
    rcases hD with ⟨rfl, w0, w3, w4, w5⟩ | ⟨hi0, hD⟩
    · rw [if_pos (show nI 0 = (0 : Int32) from rfl), if_pos (show nI 0 ≤ (0 : Int32) by decide), if_neg (show ¬ (0 : Int32) = 1 by decide)]
      unfold T_readItem_119
      exact ⟨_, _, _, _, _, _, _, _, _, _, _, _, _, _, _, _, _, _, _, _, _, rfl, (no60 _ _ _ _ _ _ _ _).symm, fun i hi => rfl, Or.inl ⟨rfl, _, hb.2.1, rfl, rfl⟩⟩
    · have zi : ¬ nI it = (0 : Int32) := nI_ne0 hi0 (by omega)
      have zj : ¬ nI it ≤ (0 : Int32) := nI_nle hi0 (by omega)
      rw [if_neg zi, if_neg zj, if_pos rfl, if_neg (show ¬ (2 : Int32) = 0 by decide), if_neg (show ¬ (2 : Int32) = 1 by decide)]
      obtain ⟨a, b, c, e, tft', ab', un', he', r, w', ap', sp', iw', ig', nu', es, em, ew, ef⟩ := over_N (dhe := dhe) h hb.2.2.2.1 hD (nI (tbeg tb len p)) (nI 3) tnm (nI (tbeg tb len p)) iw ig nu
      rw [es, em, bd8_s, bd7_s]
      rcases ef with ⟨rfl, f, hf, e1, e2⟩ | ⟨rfl, e1, q, hq1, hq2, e2, e3, e4⟩
      · exact ⟨_, _, _, _, _, _, _, _, _, _, _, _, _, _, _, _, _, _, _, _, _, rfl, rfl, ew, Or.inl ⟨rfl, f, hf, e1, e2⟩⟩
      · exact ⟨_, _, _, _, _, _, _, _, _, _, _, _, _, _, _, _, _, _, _, _, _, rfl, rfl, ew, Or.inr ⟨rfl, e1, q, by omega, hq2, e2, e3, e4⟩⟩
  have z3 : ¬ ttk = 3 := by
    rw [hk]
    exact fun x => k3 ((nI_eq (by omega) (by omega)).mp (show nI (tkq tb len p) = nI 3 from x))
  have ew : wnk (tkq tb len p) = -1 := by
    unfold wnk
    rw [if_neg k1, if_neg k2, if_neg k3]
  rw [if_neg z3, ew, if_pos rfl]
  unfold T_readItem_119
  exact ⟨_, _, _, _, _, _, _, _, _, _, _, _, _, _, _, _, _, _, _, _, _, rfl, (no60 _ _ _ _ _ _ _ _).symm, fun i hi => rfl, Or.inl ⟨rfl, _, hb.2.1, rfl, rfl⟩⟩
/-- the stop behind it -/
theorem stop_N {len p it : Nat} {tb : Nat → Nat} {tby tx w : Nat → Int32} {a b c e tft r ap sp : Int32} (h : TX len tb tby tx) (hf : (r = 0 ∧ ∃ f, f ≤ len ∧ tft = nI f ∧ sp = nI f) ∨ (r = 1 ∧ tft = -1 ∧ ∃ q, p ≤ q ∧ q ≤ len ∧ ap = nI q ∧ CS tb len q a b c e)) (iw ig : Int32) (nu : Nat → Int32) :
    ∃ a' b' c' e' tit' tft' r' ap' sp' iw' ig', T_takeStop tby (nI len) a b c e (nI it) tft = some (a', b', c', e', tit', tft') ∧ M_takesItem_60 r w tx (nI len) ap sp iw ig nu = some (r', w, ap', sp', iw', ig', nu) ∧
      ((r' = 0 ∧ ∃ f, f ≤ len ∧ tft' = nI f ∧ sp' = nI f) ∨ (r = 1 ∧ r' = 1 ∧ tft' = -1 ∧ tit' = nI (it + 1) ∧ ∃ q, p < q ∧ q ≤ len ∧ ap' = nI q ∧ CS tb len q a' b' c' e')) := by
  have h150 := h.1
  unfold T_takeStop
  rcases hf with ⟨rfl, f, hf, rfl, rfl⟩ | ⟨rfl, rfl, q, hq1, hq2, rfl, hC⟩
  · rw [if_neg (nI_m1 (by omega)), no60]
    exact ⟨_, _, _, _, _, _, _, _, _, _, _, rfl, rfl, Or.inl ⟨rfl, f, hf, rfl, rfl⟩⟩
  · have hb := nxq_le (tb := tb) hq2
    have k6 := tkq_le tb len q
    obtain ⟨a2, b2, c2, d2, em, hM⟩ := stepM h hq2 sp iw ig
    obtain ⟨rfl, rfl, rfl, hv⟩ := hC
    obtain ⟨rfl, rfl, -⟩ := hM
    unfold M_takesItem_60
    rw [if_pos rfl, if_neg (show ¬ (1 : Int32) = 0 by decide), em, bd4_s]
    by_cases k5 : tkq tb len q = 5
    · obtain ⟨s1, s2⟩ := tkd_5.mp k5
      obtain ⟨a3, b3, c3, e3, es, ec⟩ := stepC h hb.2.2.2.1 (nI (tbeg tb len q)) (nI (tkq tb len q)) e
      rw [byteM h s1, bd1_s, if_pos (show nI (tkq tb len q) = 5 by rw [k5]; rfl), if_pos (show nI (tb (tbeg tb len q)) = 59 by rw [s2]; rfl), es, nI_1]
      exact ⟨_, _, _, _, _, _, _, _, _, _, _, rfl, rfl, Or.inr ⟨rfl, rfl, rfl, rfl, nxq tb len q, by have := hb.2.2.2.2 s1; omega, hb.2.2.2.1, rfl, ec⟩⟩
    · rw [if_neg (show ¬ nI (tkq tb len q) = 5 from fun x => k5 ((nI_eq (by omega) (by omega)).mp (show nI (tkq tb len q) = nI 5 from x)))]
      by_cases s1 : tbeg tb len q < len
      · have hv := (h.2 _ s1).1
        rw [byteM h s1, bd1_s, if_neg (show ¬ nI (tb (tbeg tb len q)) = 59 from fun x => k5 (tkd_5.mpr ⟨s1, (nI_eq (by omega) (by omega)).mp (show nI (tb (tbeg tb len q)) = nI 59 from x)⟩))]
        exact ⟨_, _, _, _, _, _, _, _, _, _, _, rfl, rfl, Or.inl ⟨rfl, _, hb.2.1, rfl, rfl⟩⟩
      · rw [byteE (by omega) (by omega), bd1_s, if_neg (by decide)]
        exact ⟨_, _, _, _, _, _, _, _, _, _, _, rfl, rfl, Or.inl ⟨rfl, _, hb.2.1, rfl, rfl⟩⟩
