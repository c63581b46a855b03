/-! PURE: reading: the class's token -/
/-- the kind of the token at s -/
def tkd (tb : Nat → Nat) (len s : Nat) : Nat := if s < len then (if isL (tb s) = true then kwd tb s (tend tb len s) else if isF (tb s) = true then (if 3 < tend tb len s - s then 6 else 4) else if tb s = 59 then 5 else 6) else 0
/-- its number -/
def tnb (tb : Nat → Nat) (len s : Nat) (old : Int32) : Int32 := if s < len ∧ isL (tb s) = false ∧ isF (tb s) = true then nI (vl tb s (min (tend tb len s - s) 3)) else old
theorem tokC {len p : Nat} {tb : Nat → Nat} {tby tx : Nat → Int32} (h : TX len tb tby tx) (hp : p ≤ len) (tsr ttk tnm : Int32) : T_step tby (nI len) (nI p) tsr ttk tnm = some (nI (tend tb len (tbeg tb len p)), nI (tbeg tb len p), nI (tkd tb len (tbeg tb len p)), tnb tb len (tbeg tb len p) tnm) := by
  have h150 := h.1
  have hb := tbeg_le (tb := tb) hp
  unfold T_step
  rw [spaceC_L h tsr ttk tnm (len - p) p FU (by omega) (by unfold FU; omega)]
  show T_step_37 tby (nI len) (nI (tbeg tb len p)) tsr ttk tnm = _
  generalize tbeg tb len p = s at *
  have ht := tend_le (tb := tb) hb.2
  unfold T_step_37
  by_cases c : s < len
  · have hv := (h.2 s c).1
    rw [if_pos ((nI_ltI (by omega) (by omega)).mpr c), byteC h c, bd1_s, letC _ hv, bd1_s, bI_ite, bd1_s, figC _ hv, bd1_s, bI_ite, bd1_s]
    by_cases c1 : isL (tb s) = true
    · rw [if_pos c1]
      unfold T_takeWord
      rw [wordC_L h (nI s) ttk (len - s) s FU (by omega) (by unfold FU; omega)]
      have e : en isL tb (len - s) s = tend tb len s := by
        unfold tend
        rw [if_pos c, if_pos c1, show len - s = (len - (s + 1)) + 1 by omega, en, if_pos c1]
      rw [e, kwdC h ht.1 ht.2.1]
      unfold tkd tnb
      rw [if_pos c, if_pos c1, if_neg (show ¬ (s < len ∧ isL (tb s) = false ∧ isF (tb s) = true) from fun q => by rw [c1] at q; exact Bool.noConfusion q.2.1)]
      rfl
    · rw [if_neg c1]
      have c1' : isL (tb s) = false := by cases q : isL (tb s) <;> simp_all
      by_cases c2 : isF (tb s) = true
      · rw [if_pos c2]
        unfold T_takeFigures
        have f := figC_L (s := s) h ttk (len - s) s FU (by omega) (by unfold FU; omega) (Nat.le_refl s)
        rw [show min (s - s) 3 = 0 by omega] at f
        have e : en isF tb (len - s) s = tend tb len s := by
          unfold tend
          rw [if_pos c, if_neg c1, if_pos c2, show len - s = (len - (s + 1)) + 1 by omega, en, if_pos c2]
        rw [show (0 : Int32) = nI (vl tb s 0) from rfl, f, e]
        unfold T_takeFigures_79 T_takeFigures_99 tkd tnb
        rw [if_pos c, if_neg c1, if_pos c2, if_pos (show s < len ∧ isL (tb s) = false ∧ isF (tb s) = true from ⟨c, c1', c2⟩), sub_N ht.1]
        by_cases k : 3 < tend tb len s - s
        · rw [if_pos (show (3 : Int32) < nI (tend tb len s - s) from (nI_ltI (a := 3) (by omega) (by omega)).mpr k), if_pos k]
          rfl
        · rw [if_neg (show ¬ (3 : Int32) < nI (tend tb len s - s) from fun q => k ((nI_ltI (a := 3) (by omega) (by omega)).mp q)), if_neg k]
          rfl
      · rw [if_neg c2]
        have e : tend tb len s = s + 1 := by unfold tend; rw [if_pos c, if_neg c1, if_neg c2]
        unfold T_step_126 tkd tnb
        simp only [bnd]
        rw [nI_1, e, if_pos c, if_neg c1, if_neg c2, if_neg (show ¬ (s < len ∧ isL (tb s) = false ∧ isF (tb s) = true) from fun q => c2 q.2.2)]
        by_cases k : tb s = 59
        · rw [if_pos (show nI (tb s) = 59 by rw [k]; rfl), if_pos k]
          rfl
        · rw [if_neg (show ¬ nI (tb s) = 59 from fun q => k ((nI_eq (by omega) (by omega)).mp (show nI (tb s) = nI 59 from q))), if_neg k]
          rfl
  · rw [if_neg (fun q => c ((nI_ltI (by omega) (by omega)).mp q))]
    unfold tend tkd tnb
    rw [if_neg c, if_neg c, if_neg (show ¬ (s < len ∧ isL (tb s) = false ∧ isF (tb s) = true) from fun q => c q.1)]
    rfl
