/-! PURE: reading: both stand at the same token -/
theorem bd3_s {α1 α2 α3 β : Type} {a1 : α1} {a2 : α2} {a3 : α3} {f : α1 → α2 → α3 → Option β} : bd3 (some (a1, a2, a3)) f = f a1 a2 a3 := rfl
theorem bd4_s {α1 α2 α3 α4 β : Type} {a1 : α1} {a2 : α2} {a3 : α3} {a4 : α4} {f : α1 → α2 → α3 → α4 → Option β} : bd4 (some (a1, a2, a3, a4)) f = f a1 a2 a3 a4 := rfl
theorem bd5_s {α1 α2 α3 α4 α5 β : Type} {a1 : α1} {a2 : α2} {a3 : α3} {a4 : α4} {a5 : α5} {f : α1 → α2 → α3 → α4 → α5 → Option β} : bd5 (some (a1, a2, a3, a4, a5)) f = f a1 a2 a3 a4 a5 := rfl
theorem bd6_s {α1 α2 α3 α4 α5 α6 β : Type} {a1 : α1} {a2 : α2} {a3 : α3} {a4 : α4} {a5 : α5} {a6 : α6} {f : α1 → α2 → α3 → α4 → α5 → α6 → Option β} : bd6 (some (a1, a2, a3, a4, a5, a6)) f = f a1 a2 a3 a4 a5 a6 := rfl
theorem bd7_s {α1 α2 α3 α4 α5 α6 α7 β : Type} {a1 : α1} {a2 : α2} {a3 : α3} {a4 : α4} {a5 : α5} {a6 : α6} {a7 : α7} {f : α1 → α2 → α3 → α4 → α5 → α6 → α7 → Option β} : bd7 (some (a1, a2, a3, a4, a5, a6, a7)) f = f a1 a2 a3 a4 a5 a6 a7 := rfl
theorem bd8_s {α1 α2 α3 α4 α5 α6 α7 α8 β : Type} {a1 : α1} {a2 : α2} {a3 : α3} {a4 : α4} {a5 : α5} {a6 : α6} {a7 : α7} {a8 : α8} {f : α1 → α2 → α3 → α4 → α5 → α6 → α7 → α8 → Option β} : bd8 (some (a1, a2, a3, a4, a5, a6, a7, a8)) f = f a1 a2 a3 a4 a5 a6 a7 a8 := rfl
/-- where the token that is read from q on ends; its kind; its number -/
def nxq (tb : Nat → Nat) (len q : Nat) : Nat := tend tb len (tbeg tb len q)
def tkq (tb : Nat → Nat) (len q : Nat) : Nat := tkd tb len (tbeg tb len q)
def tvq (tb : Nat → Nat) (len q : Nat) : Nat := vl tb (tbeg tb len q) (min (nxq tb len q - tbeg tb len q) 3)
theorem nxq_le {tb : Nat → Nat} {len q : Nat} (h : q ≤ len) : q ≤ tbeg tb len q ∧ tbeg tb len q ≤ len ∧ tbeg tb len q ≤ nxq tb len q ∧ nxq tb len q ≤ len ∧ (tbeg tb len q < len → tbeg tb len q < nxq tb len q) := by
  have h1 := tbeg_le (tb := tb) h
  have h2 := tend_le (tb := tb) h1.2
  exact ⟨h1.1, h1.2, h2.1, h2.2.1, h2.2.2⟩
theorem kwd_in (tb : Nat → Nat) (s e : Nat) : kwd tb s e = 1 ∨ kwd tb s e = 2 ∨ kwd tb s e = 3 ∨ kwd tb s e = 6 := by
  unfold kwd
  split
  · exact Or.inl rfl
  · split
    · exact Or.inr (Or.inl rfl)
    · split
      · exact Or.inr (Or.inr (Or.inl rfl))
      · exact Or.inr (Or.inr (Or.inr rfl))
theorem tkd_le (tb : Nat → Nat) (len s : Nat) : tkd tb len s ≤ 6 := by
  have := kwd_in tb s (tend tb len s)
  unfold tkd
  split
  · split
    · omega
    · split
      · split <;> omega
      · split <;> omega
  · omega
theorem tkd_4 {tb : Nat → Nat} {len s : Nat} (h : tkd tb len s = 4) : s < len ∧ isL (tb s) = false ∧ isF (tb s) = true ∧ tend tb len s - s ≤ 3 := by
  have hw := kwd_in tb s (tend tb len s)
  unfold tkd at h
  by_cases c : s < len
  · rw [if_pos c] at h
    by_cases c1 : isL (tb s) = true
    · rw [if_pos c1] at h; omega
    · rw [if_neg c1] at h
      by_cases c2 : isF (tb s) = true
      · rw [if_pos c2] at h
        by_cases k : 3 < tend tb len s - s
        · rw [if_pos k] at h; omega
        · exact ⟨c, Bool.eq_false_iff.mpr c1, c2, by omega⟩
      · rw [if_neg c2] at h
        by_cases k : tb s = 59
        · rw [if_pos k] at h; omega
        · rw [if_neg k] at h; omega
  · rw [if_neg c] at h; omega
theorem tkd_5 {tb : Nat → Nat} {len s : Nat} : tkd tb len s = 5 ↔ s < len ∧ tb s = 59 := by
  have hw := kwd_in tb s (tend tb len s)
  unfold tkd
  by_cases c : s < len
  · rw [if_pos c]
    by_cases k : tb s = 59
    · have c1 : ¬ isL (tb s) = true := by rw [k]; decide
      have c2 : ¬ isF (tb s) = true := by rw [k]; decide
      rw [if_neg c1, if_neg c2, if_pos k]
      exact ⟨fun _ => ⟨c, k⟩, fun _ => rfl⟩
    · refine ⟨fun h => ?_, fun h => absurd h.2 k⟩
      by_cases c1 : isL (tb s) = true
      · rw [if_pos c1] at h; omega
      · rw [if_neg c1] at h
        by_cases c2 : isF (tb s) = true
        · rw [if_pos c2] at h
          split at h <;> omega
        · rw [if_neg c2, if_neg k] at h; omega
  · rw [if_neg c]
    exact ⟨fun h => absurd h (by omega), fun h => absurd h.1 c⟩
theorem tkd_0 {tb : Nat → Nat} {len s : Nat} : tkd tb len s = 0 ↔ ¬ s < len := by
  have hw := kwd_in tb s (tend tb len s)
  unfold tkd
  by_cases c : s < len
  · rw [if_pos c]
    refine ⟨fun h => ?_, fun h => absurd c h⟩
    by_cases c1 : isL (tb s) = true
    · rw [if_pos c1] at h; omega
    · rw [if_neg c1] at h
      by_cases c2 : isF (tb s) = true
      · rw [if_pos c2] at h
        split at h <;> omega
      · rw [if_neg c2] at h
        split at h <;> omega
  · rw [if_neg c]
    exact ⟨fun _ => c, fun _ => rfl⟩
theorem tkq_le (tb : Nat → Nat) (len q : Nat) : tkq tb len q ≤ 6 := tkd_le tb len _
/-- the class's cells, and the model's, at the token read from q on -/
def CS (tb : Nat → Nat) (len q : Nat) (tat tsr ttk tnm : Int32) : Prop := tat = nI (nxq tb len q) ∧ tsr = nI (tbeg tb len q) ∧ ttk = nI (tkq tb len q) ∧ (tkq tb len q = 4 → tnm = nI (tvq tb len q))
def MS (tb : Nat → Nat) (len q : Nat) (ap sp iw : Int32) : Prop := ap = nI (nxq tb len q) ∧ sp = nI (tbeg tb len q) ∧ iw = bI (decide (tbeg tb len q < len) && isL (tb (tbeg tb len q)))
theorem stepC {len q : Nat} {tb : Nat → Nat} {tby tx : Nat → Int32} (h : TX len tb tby tx) (hq : q ≤ len) (tsr ttk tnm : Int32) : ∃ a b c d, T_step tby (nI len) (nI q) tsr ttk tnm = some (a, b, c, d) ∧ CS tb len q a b c d := by
  refine ⟨_, _, _, _, tokC h hq tsr ttk tnm, rfl, rfl, rfl, fun e => ?_⟩
  obtain ⟨h1, h2, h3, h4⟩ := tkd_4 e
  unfold tnb
  rw [if_pos ⟨h1, h2, h3⟩]
  rfl
theorem stepM {len q : Nat} {tb : Nat → Nat} {tby tx : Nat → Int32} (h : TX len tb tby tx) (hq : q ≤ len) (sp iw ig : Int32) : ∃ a b c d, M_token tx (nI len) (nI q) sp iw ig = some (a, b, c, d) ∧ MS tb len q a b c :=
  ⟨_, _, _, _, tokM h hq sp iw ig, rfl, rfl, rfl⟩
theorem wordM {len q : Nat} {tb : Nat → Nat} {tby tx : Nat → Int32} {ap sp iw : Int32} (h : TX len tb tby tx) (hq : q ≤ len) (hM : MS tb len q ap sp iw) : M_wordNow tx (nI len) ap sp iw = some (wnk (tkq tb len q)) := by
  obtain ⟨rfl, rfl, rfl⟩ := hM
  have hb := nxq_le (tb := tb) hq
  unfold tkq tkd
  by_cases c : tbeg tb len q < len
  · by_cases c1 : isL (tb (tbeg tb len q)) = true
    · rw [decide_eq_true c, c1, if_pos c, if_pos rfl]
      exact wnowM h hb.2.2.1 hb.2.2.2.1
    · rw [Bool.eq_false_iff.mpr c1, Bool.and_false, if_pos c, if_neg (by decide)]
      rw [show bI false = 0 from rfl, wnow0]
      split
      · split <;> rfl
      · split <;> rfl
  · rw [decide_eq_false c, if_neg c, Bool.false_and]
    rfl
/-- a number that fits -/
def okn (tb : Nat → Nat) (len q : Nat) (lo hi : Int32) : Bool := decide (tkq tb len q = 4) && decide (lo ≤ nI (tvq tb len q) ∧ nI (tvq tb len q) ≤ hi)
theorem okn_t {tb : Nat → Nat} {len q : Nat} {lo hi : Int32} : okn tb len q lo hi = true ↔ tkq tb len q = 4 ∧ lo ≤ nI (tvq tb len q) ∧ nI (tvq tb len q) ≤ hi := by
  unfold okn
  rw [Bool.and_eq_true, decide_eq_true_iff, decide_eq_true_iff]
theorem figs {tb : Nat → Nat} {len s : Nat} (h1 : s < len) (h2 : isL (tb s) = false) (h3 : isF (tb s) = true) : ∀ j, s ≤ j → j < tend tb len s → isF (tb j) = true := by
  intro j hj he
  unfold tend at he
  rw [if_pos h1, if_neg (by rw [h2]; decide), if_pos h3] at he
  by_cases e : j = s
  · rw [e]; exact h3
  · exact en_in isF tb _ (s + 1) j (by omega) he
theorem tvq_lt {tb : Nat → Nat} {len q : Nat} (h : tkq tb len q = 4) : tvq tb len q < 1000 := by
  obtain ⟨h1, h2, h3, h4⟩ := tkd_4 h
  unfold tvq
  have h4' : nxq tb len q - tbeg tb len q ≤ 3 := h4
  have := vl_lt (tb := tb) (s := tbeg tb len q) (min (nxq tb len q - tbeg tb len q) 3) (fun j hj => figs h1 h2 h3 _ (by omega) (by
    have : j < nxq tb len q - tbeg tb len q := by omega
    unfold nxq at this
    omega))
  have : 10 ^ (min (nxq tb len q - tbeg tb len q) 3) ≤ 10 ^ 3 := Nat.pow_le_pow_right (by omega) (by omega)
  omega
theorem ite_bI {c : Prop} [Decidable c] : (if c then (1 : Int32) else 0) = bI (decide c) := by
  by_cases h : c
  · rw [if_pos h, decide_eq_true h]
    rfl
  · rw [if_neg h, decide_eq_false h]
    rfl
theorem takes_N {len q i : Nat} {tb : Nat → Nat} {tby tx : Nat → Int32} (h : TX len tb tby tx) (hq : q ≤ len) (hi : i < 6) (lo hi' sp iw ig : Int32) (nu : Nat → Int32) : ∃ a b c d nu', M_takes (nI i) lo hi' tx (nI len) (nI q) sp iw ig nu = some (bI (okn tb len q lo hi'), a, b, c, d, nu') ∧ MS tb len q a b c ∧ (okn tb len q lo hi' = true → nu' = upd nu i (nI (tvq tb len q))) := by
  have h150 := h.1
  have hb := nxq_le (tb := tb) hq
  unfold M_takes
  rw [tokM h hq, bd4_s, bI_ite]
  by_cases c : (decide (tbeg tb len q < len) && isF (tb (tbeg tb len q))) = true
  · rw [if_pos c]
    rw [Bool.and_eq_true, decide_eq_true_iff] at c
    obtain ⟨c0, c2⟩ := c
    have c1 : isL (tb (tbeg tb len q)) = false := by
      cases e : isL (tb (tbeg tb len q))
      · rfl
      · have := isLF e; rw [c2] at this; exact Bool.noConfusion this
    show ∃ a b c d nu', (if nI (nxq tb len q) - nI (tbeg tb len q) ≤ 3 then _ else _) = _ ∧ _
    rw [sub_N hb.2.2.1]
    by_cases k : nxq tb len q - tbeg tb len q ≤ 3
    · have e4 : tkq tb len q = 4 := by
        unfold tkq tkd
        rw [if_pos c0, if_neg (by rw [c1]; decide), if_pos c2, if_neg (by unfold nxq at k; omega)]
      have ev : tvq tb len q = vl tb (tbeg tb len q) (nxq tb len q - tbeg tb len q) := by
        unfold tvq
        rw [Nat.min_eq_left k]
      have hl := takM_L (nu := nu) (lo := lo) (hi := hi') (iw := bI (decide (tbeg tb len q < len) && isL (tb (tbeg tb len q)))) (ig := bI (decide (tbeg tb len q < len) && isF (tb (tbeg tb len q)))) h hb.2.2.2.1 (by omega) hi (figs c0 c1 c2) (nxq tb len q - tbeg tb len q) (tbeg tb len q) FU (by omega) (by unfold FU; omega) (Nat.le_refl _)
      rw [Nat.sub_self] at hl
      rw [if_pos (show nI (nxq tb len q - tbeg tb len q) ≤ (3 : Int32) from nI_le (b := 3) k (by omega))]
      have eo : okn tb len q lo hi' = decide (lo ≤ nI (vl tb (tbeg tb len q) (nxq tb len q - tbeg tb len q)) ∧ nI (vl tb (tbeg tb len q) (nxq tb len q - tbeg tb len q)) ≤ hi') := by
        unfold okn
        rw [e4, ev, decide_eq_true rfl, Bool.true_and]
      rw [eo, ev]
      rw [ite_bI] at hl
      exact ⟨_, _, _, _, _, hl, ⟨rfl, rfl, rfl⟩, fun _ => rfl⟩
    · have e4 : okn tb len q lo hi' = false := by
        unfold okn
        rw [decide_eq_false (show ¬ tkq tb len q = 4 from fun e => k (tkd_4 e).2.2.2)]
        rfl
      rw [if_neg (show ¬ nI (nxq tb len q - tbeg tb len q) ≤ (3 : Int32) from nI_ge (a := 3) (by omega) (by omega)), e4]
      exact ⟨_, _, _, _, _, rfl, ⟨rfl, rfl, rfl⟩, fun q => Bool.noConfusion q⟩
  · have e4 : okn tb len q lo hi' = false := by
      unfold okn
      rw [decide_eq_false (show ¬ tkq tb len q = 4 from fun e => c (by
        obtain ⟨h1, h2, h3, h4⟩ := tkd_4 e
        rw [decide_eq_true h1, h3]
        rfl))]
      rfl
    rw [if_neg c, e4]
    exact ⟨_, _, _, _, _, rfl, ⟨rfl, rfl, rfl⟩, fun q => Bool.noConfusion q⟩
