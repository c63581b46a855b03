/-! PURE: reading: names -/
theorem sub_N {e s : Nat} (h : s ≤ e) : nI e - nI s = nI (e - s) := pk_sub h
theorem spN0 {len s e : Nat} {tb : Nat → Nat} {tby tx : Nat → Int32} (h : TX len tb tby tx) (hse : s ≤ e) (he : e ≤ len) : T_spells0 tby (nI e) (nI s) = some (bI (decide (e = s + 4) && spl chr0 tb s 0 4)) := by
  have h150 := h.1
  unfold T_spells0
  rw [jl0, bd1_s, sub_N hse]
  by_cases c : e = s + 4
  · rw [if_pos (by rw [c, show s + 4 - s = 4 by omega]), decide_eq_true c, Bool.true_and, show (0 : Int32) = nI 0 from rfl]
    exact sp0_L h (by omega) (nI e) 4 0 FU (by omega) (by unfold FU; omega)
  · rw [if_neg (fun q => absurd ((nI_eq (by omega) (by omega)).mp q) (by omega)), decide_eq_false c]
    rfl
theorem spN1 {len s e : Nat} {tb : Nat → Nat} {tby tx : Nat → Int32} (h : TX len tb tby tx) (hse : s ≤ e) (he : e ≤ len) : T_spells1 tby (nI e) (nI s) = some (bI (decide (e = s + 5) && spl chr1 tb s 0 5)) := by
  have h150 := h.1
  unfold T_spells1
  rw [jl1, bd1_s, sub_N hse]
  by_cases c : e = s + 5
  · rw [if_pos (by rw [c, show s + 5 - s = 5 by omega]), decide_eq_true c, Bool.true_and, show (0 : Int32) = nI 0 from rfl]
    exact sp1_L h (by omega) (nI e) 5 0 FU (by omega) (by unfold FU; omega)
  · rw [if_neg (fun q => absurd ((nI_eq (by omega) (by omega)).mp q) (by omega)), decide_eq_false c]
    rfl
theorem spN2 {len s e : Nat} {tb : Nat → Nat} {tby tx : Nat → Int32} (h : TX len tb tby tx) (hse : s ≤ e) (he : e ≤ len) : T_spells2 tby (nI e) (nI s) = some (bI (decide (e = s + 4) && spl chr2 tb s 0 4)) := by
  have h150 := h.1
  unfold T_spells2
  rw [jl2, bd1_s, sub_N hse]
  by_cases c : e = s + 4
  · rw [if_pos (by rw [c, show s + 4 - s = 4 by omega]), decide_eq_true c, Bool.true_and, show (0 : Int32) = nI 0 from rfl]
    exact sp2_L h (by omega) (nI e) 4 0 FU (by omega) (by unfold FU; omega)
  · rw [if_neg (fun q => absurd ((nI_eq (by omega) (by omega)).mp q) (by omega)), decide_eq_false c]
    rfl
/-- the kind of a word -/
def kwd (tb : Nat → Nat) (s e : Nat) : Nat := if (decide (e = s + 4) && spl chr0 tb s 0 4) = true then 1 else if (decide (e = s + 5) && spl chr1 tb s 0 5) = true then 2 else if (decide (e = s + 4) && spl chr2 tb s 0 4) = true then 3 else 6
theorem kwdC {len s e : Nat} {tb : Nat → Nat} {tby tx : Nat → Int32} (h : TX len tb tby tx) (hse : s ≤ e) (he : e ≤ len) (tln ttk : Int32) : T_takeWord_38 tby tln (nI e) (nI s) ttk = some (nI e, nI (kwd tb s e)) := by
  unfold T_takeWord_38 T_takeWord_88 kwd
  rw [spN0 h hse he, spN1 h hse he, spN2 h hse he, bd1_s, bd1_s, bd1_s, bI_ite, bI_ite, bI_ite]
  split
  · rfl
  · split
    · rfl
    · split <;> rfl
theorem nam4 {len s e : Nat} {tb c : Nat → Nat} {tby tx : Nat → Int32} (h : TX len tb tby tx) (hse : s ≤ e) (he : e ≤ len) (hc : ∀ j, j < 4 → c j < 128) : M_isNamed (nI (c 0)) (nI (c 1)) (nI (c 2)) (nI (c 3)) 0 tx (nI len) (nI e) (nI s) 1 = some (bI (decide (e = s + 4) && spl c tb s 0 4)) := by
  have h150 := h.1
  unfold M_isNamed M_isNamed_26 M_isNamed_33
  rw [if_neg (by decide), if_pos rfl, sub_N hse]
  by_cases q : e = s + 4
  · have v0 := (h.2 s (by omega)).1
    have v1 := (h.2 (s + 1) (by omega)).1
    have v2 := (h.2 (s + 2) (by omega)).1
    have v3 := (h.2 (s + 3) (by omega)).1
    have c0 := hc 0 (by omega)
    have c1 := hc 1 (by omega)
    have c2 := hc 2 (by omega)
    have c3 := hc 3 (by omega)
    rw [if_pos (show nI (e - s) = 4 by rw [q, show s + 4 - s = 4 by omega]; rfl), decide_eq_true q, Bool.true_and]
    unfold M_isNamed_34
    rw [if_neg (by decide), byteM h (by omega), bd1_s, show nI s + 1 = nI (s + 1) from nI_add s 1, show nI s + 2 = nI (s + 2) from nI_add s 2, show nI s + 3 = nI (s + 3) from nI_add s 3, byteM h (by omega), bd1_s, byteM h (by omega), bd1_s, byteM h (by omega), bd1_s, if_pos rfl]
    show _ = some (bI (decide (c 0 = tb s) && (decide (c 1 = tb (s + 1)) && (decide (c 2 = tb (s + 2)) && (decide (c 3 = tb (s + 3)) && true)))))
    by_cases k0 : c 0 = tb s
    case neg => rw [if_neg (fun e => k0 ((nI_eq (by omega) (by omega)).mp e).symm), decide_eq_false k0]; rfl
    rw [if_pos (by rw [k0]), decide_eq_true k0, Bool.true_and]
    by_cases k1 : c 1 = tb (s + 1)
    case neg => rw [if_neg (fun e => k1 ((nI_eq (by omega) (by omega)).mp e).symm), decide_eq_false k1]; rfl
    rw [if_pos (by rw [k1]), decide_eq_true k1, Bool.true_and]
    by_cases k2 : c 2 = tb (s + 2)
    case neg => rw [if_neg (fun e => k2 ((nI_eq (by omega) (by omega)).mp e).symm), decide_eq_false k2]; rfl
    rw [if_pos (by rw [k2]), decide_eq_true k2, Bool.true_and]
    by_cases k3 : c 3 = tb (s + 3)
    case neg => rw [if_neg (fun e => k3 ((nI_eq (by omega) (by omega)).mp e).symm), decide_eq_false k3]; rfl
    rw [if_pos (by rw [k3]), decide_eq_true k3]
    rfl
  · rw [if_neg (show ¬ nI (e - s) = 4 from fun r => absurd ((nI_eq (by omega) (by omega)).mp (show nI (e - s) = nI 4 from r)) (by omega)), decide_eq_false q]
    rfl
theorem nam5 {len s e : Nat} {tb c : Nat → Nat} {tby tx : Nat → Int32} (h : TX len tb tby tx) (hse : s ≤ e) (he : e ≤ len) (hc : ∀ j, j < 5 → c j < 128) (h40 : c 4 ≠ 0) : M_isNamed (nI (c 0)) (nI (c 1)) (nI (c 2)) (nI (c 3)) (nI (c 4)) tx (nI len) (nI e) (nI s) 1 = some (bI (decide (e = s + 5) && spl c tb s 0 5)) := by
  have h150 := h.1
  have c4 := hc 4 (by omega)
  have z4 : ¬ nI (c 4) = 0 := fun q => h40 ((nI_eq (by omega) (by omega)).mp (show nI (c 4) = nI 0 from q))
  unfold M_isNamed M_isNamed_26 M_isNamed_33
  rw [if_neg (by decide), if_neg z4, sub_N hse]
  by_cases q : e = s + 5
  · have v0 := (h.2 s (by omega)).1
    have v1 := (h.2 (s + 1) (by omega)).1
    have v2 := (h.2 (s + 2) (by omega)).1
    have v3 := (h.2 (s + 3) (by omega)).1
    have v4 := (h.2 (s + 4) (by omega)).1
    have c0 := hc 0 (by omega)
    have c1 := hc 1 (by omega)
    have c2 := hc 2 (by omega)
    have c3 := hc 3 (by omega)
    rw [if_pos (show nI (e - s) = 5 by rw [q, show s + 5 - s = 5 by omega]; rfl), decide_eq_true q, Bool.true_and]
    unfold M_isNamed_34
    rw [if_neg (by decide), byteM h (by omega), bd1_s, show nI s + 1 = nI (s + 1) from nI_add s 1, show nI s + 2 = nI (s + 2) from nI_add s 2, show nI s + 3 = nI (s + 3) from nI_add s 3, show nI s + 4 = nI (s + 4) from nI_add s 4, byteM h (by omega), bd1_s, byteM h (by omega), bd1_s, byteM h (by omega), bd1_s, byteM h (by omega), bd1_s, if_neg z4]
    show _ = some (bI (decide (c 0 = tb s) && (decide (c 1 = tb (s + 1)) && (decide (c 2 = tb (s + 2)) && (decide (c 3 = tb (s + 3)) && (decide (c 4 = tb (s + 4)) && true))))))
    by_cases k0 : c 0 = tb s
    case neg => rw [if_neg (fun e => k0 ((nI_eq (by omega) (by omega)).mp e).symm), decide_eq_false k0]; rfl
    rw [if_pos (by rw [k0]), decide_eq_true k0, Bool.true_and]
    by_cases k1 : c 1 = tb (s + 1)
    case neg => rw [if_neg (fun e => k1 ((nI_eq (by omega) (by omega)).mp e).symm), decide_eq_false k1]; rfl
    rw [if_pos (by rw [k1]), decide_eq_true k1, Bool.true_and]
    by_cases k2 : c 2 = tb (s + 2)
    case neg => rw [if_neg (fun e => k2 ((nI_eq (by omega) (by omega)).mp e).symm), decide_eq_false k2]; rfl
    rw [if_pos (by rw [k2]), decide_eq_true k2, Bool.true_and]
    by_cases k3 : c 3 = tb (s + 3)
    case neg => rw [if_neg (fun e => k3 ((nI_eq (by omega) (by omega)).mp e).symm), decide_eq_false k3]; rfl
    rw [if_pos (by rw [k3]), decide_eq_true k3, Bool.true_and]
    by_cases k4 : c 4 = tb (s + 4)
    case neg => rw [if_neg (fun e => k4 ((nI_eq (by omega) (by omega)).mp e).symm), decide_eq_false k4]; rfl
    rw [if_pos (by rw [k4]), decide_eq_true k4]
    rfl
  · rw [if_neg (show ¬ nI (e - s) = 5 from fun r => absurd ((nI_eq (by omega) (by omega)).mp (show nI (e - s) = nI 5 from r)) (by omega)), decide_eq_false q]
    rfl
/-- the model's number of a word's kind -/
def wnk (k : Nat) : Int32 := if k = 1 then 0 else if k = 2 then 1 else if k = 3 then 2 else -1
theorem wnowM {len s e : Nat} {tb : Nat → Nat} {tby tx : Nat → Int32} (h : TX len tb tby tx) (hse : s ≤ e) (he : e ≤ len) : M_wordNow tx (nI len) (nI e) (nI s) 1 = some (wnk (kwd tb s e)) := by
  unfold M_wordNow
  rw [show M_isNamed 115 104 105 112 0 tx (nI len) (nI e) (nI s) 1 = _ from nam4 (c := chr0) h hse he ch0_le, show M_isNamed 103 111 111 100 115 tx (nI len) (nI e) (nI s) 1 = _ from nam5 (c := chr1) h hse he ch1_le (by decide), show M_isNamed 111 118 101 114 0 tx (nI len) (nI e) (nI s) 1 = _ from nam4 (c := chr2) h hse he ch2_le, bd1_s, bd1_s, bd1_s, bI_ite, bI_ite, bI_ite]
  unfold kwd
  split
  · rfl
  · split
    · rfl
    · split <;> rfl
theorem wnow0 (tx : Nat → Int32) (td ap sp : Int32) : M_wordNow tx td ap sp 0 = some (-1) := rfl
