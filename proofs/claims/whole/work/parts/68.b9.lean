/-! PURE: the search, the model's -/
theorem sdf_0 {a b : Nat} : sdf a b = 0 ↔ ∀ i, a.testBit i = true → b.testBit i = true := by
  constructor
  · intro h i hi
    have := sdf_bit a b i
    rw [h, Nat.zero_testBit, hi] at this
    cases e : b.testBit i
    · rw [e] at this; exact Bool.noConfusion this
    · rfl
  · intro h
    apply Nat.eq_of_testBit_eq
    intro i
    rw [sdf_bit, Nat.zero_testBit]
    cases e : a.testBit i
    · rfl
    · rw [h i e]; rfl
/-- who is moved, and where to -/
def Mov (n : Nat) (K : Nat → Nat → Nat) (x4 x5 : Int32) (Hd po : Nat → Nat) : Prop := (x4 = -1 ∧ (∀ i, Hd i = K i 2) ∧ (∀ i, po i = i)) ∨ (∃ m h, m < n ∧ h ≤ 2 ∧ x4 = nI m ∧ x5 = nI h ∧ (∀ i, Hd i = if i = m then h else K i 2) ∧ (∀ i, po i = if i = m then 8 else i))
def abv (x4 : Int32) (k i : Nat) : Bool := decide (nI i = x4) || (!decide (nI k = x4) && decide (k < i))
theorem Mov.le {n : Nat} {K : Nat → Nat → Nat} {x4 x5 : Int32} {Hd po : Nat → Nat} (h : Mov n K x4 x5 Hd po) (hKB : KB n K) : ∀ i, i < n → Hd i ≤ 2 := by
  intro i hi
  have := (hKB i hi).2.2.1
  rcases h with ⟨-, h2, -⟩ | ⟨m, g, hm, hg, -, -, h3, -⟩
  · rw [h2]; exact this
  · rw [h3]; split <;> omega
theorem Mov.ab {n : Nat} {K : Nat → Nat → Nat} {x4 x5 : Int32} {Hd po : Nat → Nat} (h : Mov n K x4 x5 Hd po) (hn : n ≤ 8) {i k : Nat} (hi : i < n) (hk : k < n) (hik : i ≠ k) : abv x4 k i = decide (po k < po i) := by
  unfold abv
  rcases h with ⟨rfl, -, h3⟩ | ⟨m, g, hm, hg, rfl, -, -, h4⟩
  · have q1 := nI_m1 (i := i) (by omega)
    have q2 := nI_m1 (i := k) (by omega)
    rw [h3, h3]
    simp [q1, q2]
  · rw [h4, h4]
    have e1 : (nI i = nI m) ↔ i = m := nI_eq (by omega) (by omega)
    have e2 : (nI k = nI m) ↔ k = m := nI_eq (by omega) (by omega)
    by_cases q1 : i = m
    · have q2 : ¬ k = m := fun e => hik (by omega)
      rw [if_pos q1, if_neg q2]
      simp only [e1, q1, decide_true, Bool.true_or]
      exact (decide_eq_true (by omega)).symm
    · by_cases q2 : k = m
      · rw [if_neg q1, if_pos q2]
        simp only [e1, e2, q1, q2, decide_true, decide_false, Bool.not_true, Bool.false_and, Bool.or_false]
        exact (decide_eq_false (by omega)).symm
      · rw [if_neg q1, if_neg q2]
        simp only [e1, e2, q1, q2, decide_false, Bool.not_false, Bool.true_and, Bool.false_or]
theorem istop_N {n Q k : Nat} {K : Nat → Nat → Nat} {x4 x5 : Int32} {Hd po : Nat → Nat} {w : Nat → Int32} (h : Mov n K x4 x5 Hd po) (hKB : KB n K) (hm : GMv n K w 0) (h0 : w 0 = nI n) (hn : n ≤ 8) (hQ : Q < 2 ^ 31) (hk : k < n) : M_isTop 0 (nI Q) (nI k) x4 x5 w = some (bI (topB n Q k Hd (abv x4 k))) := by
  refine mtop_N (o := 0) (by omega) h0 hn hQ hk (fun i hi => ?_) (fun i hi => ?_) (fun i hi => rfl)
  · have := h.le hKB i hi
    omega
  · have e := hm i 2 hi (by omega)
    rw [show 6 + 8 * 2 + i = 22 + i by omega] at e
    rcases h with ⟨rfl, h2, -⟩ | ⟨m, g, hm, hg, rfl, rfl, h3, -⟩
    · rw [h2]
      exact ⟨fun q => absurd q (nI_m1 (by omega)), fun _ => e⟩
    · rw [h3]
      constructor
      · intro q
        rw [if_pos ((nI_eq (by omega) (by omega)).mp q)]
      · intro q
        rw [if_neg (fun r => q (by rw [r]))]
        exact e
/-- T may go: nothing that stays lies above it -/
def upc (n S : Nat) (Hd po : Nat → Nat) (T : Nat) : Prop := ∀ k, k < n → T.testBit k = true → ∀ i, i < n → S.testBit i = true → T.testBit i = false → Hd i = Hd k → ¬ po k < po i
def badG (n S T : Nat) (Hd : Nat → Nat) (x4 : Int32) (k : Nat) : Bool := T.testBit k && !topB n (sdf S T ||| 2 ^ k) k Hd (abv x4 k)
theorem badG_f {n S T : Nat} {K : Nat → Nat → Nat} {x4 x5 : Int32} {Hd po : Nat → Nat} (h : Mov n K x4 x5 Hd po) (hn : n ≤ 8) : anyB (badG n S T Hd x4) n = false ↔ upc n S Hd po T := by
  have key : ∀ k, k < n → T.testBit k = true → (topB n (sdf S T ||| 2 ^ k) k Hd (abv x4 k) = true ↔ ∀ i, i < n → S.testBit i = true → T.testBit i = false → Hd i = Hd k → ¬ po k < po i) := by
    intro k hk hT
    unfold topB
    have eb : (sdf S T ||| 2 ^ k).testBit k = true := by rw [Nat.testBit_or, Nat.testBit_two_pow]; simp
    rw [eb, Bool.true_and]
    constructor
    · intro hb i hi hS hTi hH hp
      have hik : i ≠ k := by
        intro e
        subst e
        rw [hT] at hTi
        exact Bool.noConfusion hTi
      have : blk (sdf S T ||| 2 ^ k) k Hd (abv x4 k) i = true := by
        unfold blk
        rw [h.ab hn hi hk hik, Nat.testBit_or, sdf_bit, hS, hTi, decide_eq_true hH, decide_eq_true hp, decide_eq_false hik]
        rfl
      rw [anyB_t hi this] at hb
      exact Bool.noConfusion hb
    · intro hb
      rw [anyB_f]
      · rfl
      · intro i hi
        unfold blk
        by_cases hik : i = k
        · rw [decide_eq_true hik]; rfl
        · rw [decide_eq_false hik, h.ab hn hi hk hik, Nat.testBit_or, sdf_bit, Nat.testBit_two_pow, decide_eq_false (fun e => hik e.symm), Bool.or_false]
          cases e1 : S.testBit i
          · rfl
          · cases e2 : T.testBit i
            · by_cases e3 : Hd i = Hd k
              · rw [decide_eq_true e3, decide_eq_false (hb i hi e1 e2 e3)]; rfl
              · rw [decide_eq_false e3]; rfl
            · rfl
  constructor
  · intro ha k hk hT
    apply (key k hk hT).mp
    have := anyB_f' ha hk
    unfold badG at this
    rw [hT, Bool.true_and] at this
    cases e : topB n (sdf S T ||| 2 ^ k) k Hd (abv x4 k)
    · rw [e] at this; exact Bool.noConfusion this
    · rfl
  · intro hu
    apply anyB_f
    intro k hk
    unfold badG
    cases e : T.testBit k
    · rfl
    · rw [(key k hk e).mpr (hu k hk e)]; rfl
theorem cango_L {n S T : Nat} {K : Nat → Nat → Nat} {x4 x5 : Int32} {Hd po : Nat → Nat} {w : Nat → Int32} (h : Mov n K x4 x5 Hd po) (hKB : KB n K) (hm : GMv n K w 0) (h0 : w 0 = nI n) (hn : n ≤ 8) (hS : S < 2 ^ n) (hT : T < 2 ^ 31) : ∀ d k fuel, k + d = n → d < fuel → M_canGo_L6 fuel (nI S) (nI T) x4 x5 (bI (!anyB (badG n S T Hd x4) k)) (nI k) w = some (bI (!anyB (badG n S T Hd x4) n)) := by
  intro d
  induction d with
  | zero =>
    intro k fuel hk hf
    obtain ⟨g, rfl⟩ := fuel1 hf
    have hk : k = n := by omega
    subst hk
    rw [M_canGo_L6, M_canGo_6, h0, if_pos (nI_le (by omega) (by omega)), bo_bI]
    rfl
  | succ d ih =>
    intro k fuel hk hf
    obtain ⟨g, rfl⟩ := fuel1 hf
    have hh := ih (k + 1) g (by omega) (by omega)
    have hl : sdf S T ||| 2 ^ k < 2 ^ n := or_lt (sdf_lt hS) (by omega)
    have hl8 := lt256 hl hn
    rw [M_canGo_L6, M_canGo_6, h0, if_neg (nI_ge (by omega) (by omega)), has_N hT (by omega), andn_N, shl_N (by omega), or_N, istop_N h hKB hm h0 hn (by omega) (by omega), bd1_s, bd1_s, ite_10]
    simp only [bnd, bI_ite]
    rw [nI_1]
    rw [show anyB (badG n S T Hd x4) (k + 1) = (anyB (badG n S T Hd x4) k || badG n S T Hd x4 k) from rfl] at hh
    rw [← hh]
    cases e : anyB (badG n S T Hd x4) k
    · rw [if_pos (by decide), Bool.false_or]
      unfold badG
      cases e2 : T.testBit k
      · rw [if_neg (by decide)]; rfl
      · rw [if_pos rfl, Bool.true_and]
        cases e3 : topB n (sdf S T ||| 2 ^ k) k Hd (abv x4 k)
        · rw [if_neg (by decide)]; rfl
        · rw [if_pos rfl]; rfl
    · rw [if_neg (by decide), Bool.true_or]; rfl
theorem cango_N {n S T : Nat} {K : Nat → Nat → Nat} {x4 x5 : Int32} {Hd po : Nat → Nat} {w : Nat → Int32} (h : Mov n K x4 x5 Hd po) (hKB : KB n K) (hm : GMv n K w 0) (h0 : w 0 = nI n) (hn : n ≤ 8) (hS : S < 2 ^ n) (hT : T < 2 ^ 31) : M_canGo (nI S) (nI T) x4 x5 w = some (bI (!anyB (badG n S T Hd x4) n)) := by
  unfold M_canGo
  rw [show (0 : Int32) = nI 0 from rfl]
  exact cango_L h hKB hm h0 hn hS hT n 0 FU (by omega) (by unfold FU; omega)
def hvy (n : Nat) (K : Nat → Nat → Nat) (T : Nat) : Nat := sm (inS T (fun k => K k 3)) n
def wor (n : Nat) (K : Nat → Nat → Nat) (T : Nat) : Nat := sm (inS T (fun k => K k 4)) n
/-- T is a way out -/
def way (n S cv : Nat) (K : Nat → Nat → Nat) (Hd po : Nat → Nat) (a : Int32) (T : Nat) : Prop := sdf T S = 0 ∧ upc n S Hd po T ∧ ¬ (nI cv - a < nI (hvy n K (sdf S T)))
/-- T before U -/
def bet (n : Nat) (K : Nat → Nat → Nat) (T U : Nat) : Prop := wor n K T < wor n K U ∨ (wor n K T = wor n K U ∧ (pop T < pop U ∨ (pop T = pop U ∧ T < U)))
/-- T is the first of the ways of whom V holds -/
def fst1 (n : Nat) (K : Nat → Nat → Nat) (P V : Nat → Prop) (T : Nat) : Prop := V T ∧ P T ∧ ∀ U, V U → P U → ¬ bet n K U T
theorem wor_le {n : Nat} {K : Nat → Nat → Nat} (hKB : KB n K) (T : Nat) : wor n K T ≤ n * 60 := sm_le (fun k hk => by
  unfold inS
  split
  · exact (hKB k hk).2.2.2.2.2.1
  · omega)
theorem hvy_le {n : Nat} {K : Nat → Nat → Nat} (hKB : KB n K) (T : Nat) : hvy n K T ≤ n * 40 := sm_le (fun k hk => by
  unfold inS
  split
  · exact (hKB k hk).2.2.2.2.1
  · omega)
theorem bet_tr {n : Nat} {K : Nat → Nat → Nat} {T U V : Nat} (h1 : ¬ bet n K T U) (h2 : ¬ bet n K U V) : ¬ bet n K T V := by
  unfold bet at *
  omega
theorem fst1_one {n : Nat} {K : Nat → Nat → Nat} {P V : Nat → Prop} {T U : Nat} (h1 : fst1 n K P V T) (h2 : fst1 n K P V U) : T = U := by
  have a := h1.2.2 U h2.1 h2.2.1
  have b := h2.2.2 T h1.1 h1.2.1
  unfold bet at a b
  omega
theorem fl_take (rc : Int32 → Int32 → Int32 → Int32 → Int32 → (Nat → Int32) → Int32 → Int32 → Option (Int32 × Int32)) (x1 x2 x3 x4 x5 x6 : Int32) (w : Nat → Int32) (lst lwo : Int32) : M_findLeast_99 rc x1 x2 x3 x4 x5 x6 w lst lwo = rc x1 x2 x3 x4 (x5 + 1) w x5 x6 := rfl
theorem fl_keep (rc : Int32 → Int32 → Int32 → Int32 → Int32 → (Nat → Int32) → Int32 → Int32 → Option (Int32 × Int32)) (x1 x2 x3 x4 x5 x6 : Int32) (w : Nat → Int32) (lst lwo : Int32) : M_findLeast_103 rc x1 x2 x3 x4 x5 x6 w lst lwo = rc x1 x2 x3 x4 (x5 + 1) w lst lwo := rfl
theorem nI_mil {a : Nat} (h : a < 1000) : nI a < 1000000 := by
  rw [Int32.lt_iff_toInt_lt, nI_toInt (by omega)]
  have hM : (1000000 : Int32).toInt = 1000000 := rfl
  omega
theorem least_L {n S cv : Nat} {K : Nat → Nat → Nat} {x4 x5 a : Int32} {Hd po : Nat → Nat} {w : Nat → Int32} (h : Mov n K x4 x5 Hd po) (hKB : KB n K) (hm : GMv n K w 0) (h0 : w 0 = nI n) (h2 : w 2 = nI cv) (hn : n ≤ 8) (hS : S < 2 ^ n) : ∀ d t fuel lst lwo, t + d = 256 → d < fuel → ((∃ T, fst1 n K (way n S cv K Hd po a) (fun U => U < t) T ∧ lst = nI T ∧ lwo = nI (wor n K T)) ∨ ((∀ U, U < t → ¬ way n S cv K Hd po a U) ∧ lst = -1 ∧ lwo = 1000000)) → ∃ lst' lwo', M_findLeast_L14 fuel (nI S) a x4 x5 (nI t) w lst lwo = some (lst', lwo') ∧ ((∃ T, fst1 n K (way n S cv K Hd po a) (fun U => U < 256) T ∧ lst' = nI T ∧ lwo' = nI (wor n K T)) ∨ ((∀ U, U < 256 → ¬ way n S cv K Hd po a U) ∧ lst' = -1)) := by
  have hS8 := lt256 hS hn
  intro d
  induction d with
  | zero =>
    intro t fuel lst lwo ht hf hi
    obtain ⟨g, rfl⟩ := fuel1 hf
    have ht : t = 256 := by omega
    subst ht
    rw [M_findLeast_L14, M_findLeast_14, if_pos (by decide)]
    refine ⟨lst, lwo, rfl, ?_⟩
    rcases hi with hi | ⟨hi, e, -⟩
    · exact Or.inl hi
    · exact Or.inr ⟨hi, e⟩
  | succ d ih =>
    intro t fuel lst lwo ht hf hi
    obtain ⟨g, rfl⟩ := fuel1 hf
    have hh := fun lst lwo => ih (t + 1) g lst lwo (by omega) (by omega)
    have keep : ¬ way n S cv K Hd po a t → ∃ lst' lwo', M_findLeast_L14 g (nI S) a x4 x5 (nI (t + 1)) w lst lwo = some (lst', lwo') ∧ ((∃ T, fst1 n K (way n S cv K Hd po a) (fun U => U < 256) T ∧ lst' = nI T ∧ lwo' = nI (wor n K T)) ∨ ((∀ U, U < 256 → ¬ way n S cv K Hd po a U) ∧ lst' = -1)) := by
      intro hno
      apply hh
      rcases hi with ⟨T, ⟨f1, f2, f3⟩, e1, e2⟩ | ⟨hi, e1, e2⟩
      · refine Or.inl ⟨T, ⟨Nat.lt_succ_of_lt f1, f2, fun U hU hP => ?_⟩, e1, e2⟩
        by_cases q : U = t
        · subst q; exact absurd hP hno
        · exact f3 U (show U < t by have : U < t + 1 := hU; omega) hP
      · refine Or.inr ⟨fun U hU => ?_, e1, e2⟩
        by_cases q : U = t
        · subst q; exact hno
        · exact hi U (by omega)
    have hsT : sdf S t < 2 ^ n := sdf_lt hS
    have hsT8 := lt256 hsT hn
    have htS : sdf t S < 256 := sdf_lt (n := 8) (show t < 2 ^ 8 by omega)
    have al := malive_N (S := sdf S t) hm h0 h2 hn (by omega) a
    rw [M_findLeast_L14, M_findLeast_14, if_neg (show ¬ (256 : Int32) ≤ nI t from nI_ge (a := t) (b := 256) (by omega) (by omega)), andn_N, andn_N, al, bd1_s, cango_N h hKB hm h0 hn hS (by omega), bd1_s, worth_N hm h0 hn (by omega), bd1_s]
    simp only [bnd, bI_ite]
    rw [nI_1, fl_take, fl_keep, nI_1]
    by_cases c1 : sdf t S = 0
    case neg =>
      rw [if_neg (show ¬ nI (sdf t S) = 0 from fun e => c1 ((nI_eq (by omega) (by omega)).mp (show nI (sdf t S) = nI 0 from e)))]
      exact keep (fun q => c1 q.1)
    rw [if_pos (by rw [c1]; rfl)]
    by_cases c2 : nI cv - a < nI (sm (inS (sdf S t) fun k => K k 3) n)
    · rw [if_neg (by simp [c2])]
      exact keep (fun q => q.2.2 c2)
    rw [if_pos (by simp [c2])]
    by_cases c3 : upc n S Hd po t
    case neg =>
      rw [if_neg]
      · exact keep (fun q => c3 q.2.1)
      · intro q
        apply c3
        apply (badG_f h hn).mp
        cases e : anyB (badG n S t Hd x4) n
        · rfl
        · rw [e] at q; exact Bool.noConfusion q
    rw [(badG_f h hn).mpr c3, if_pos (by decide)]
    have hw : way n S cv K Hd po a t := ⟨c1, c3, c2⟩
    have wl := wor_le hKB t
    rcases hi with ⟨T, ⟨f1, f2, f3⟩, rfl, rfl⟩ | ⟨hi, rfl, rfl⟩
    · have f1 : T < t := f1
      have wlT := wor_le hKB T
      have pT := pop_le T (by omega)
      have pt := pop_le t (by omega)
      have hk : ¬ bet n K t T → ∃ lst' lwo', M_findLeast_L14 g (nI S) a x4 x5 (nI (t + 1)) w (nI T) (nI (wor n K T)) = some (lst', lwo') ∧ ((∃ T, fst1 n K (way n S cv K Hd po a) (fun U => U < 256) T ∧ lst' = nI T ∧ lwo' = nI (wor n K T)) ∨ ((∀ U, U < 256 → ¬ way n S cv K Hd po a U) ∧ lst' = -1)) := by
        intro hb
        apply hh
        refine Or.inl ⟨T, ⟨Nat.lt_succ_of_lt f1, f2, fun U hU hP => ?_⟩, rfl, rfl⟩
        by_cases q : U = t
        · subst q; exact hb
        · exact f3 U (show U < t by have : U < t + 1 := hU; omega) hP
      have ht : bet n K t T → ∃ lst' lwo', M_findLeast_L14 g (nI S) a x4 x5 (nI (t + 1)) w (nI t) (nI (wor n K t)) = some (lst', lwo') ∧ ((∃ T, fst1 n K (way n S cv K Hd po a) (fun U => U < 256) T ∧ lst' = nI T ∧ lwo' = nI (wor n K T)) ∨ ((∀ U, U < 256 → ¬ way n S cv K Hd po a U) ∧ lst' = -1)) := by
        intro hb
        apply hh
        refine Or.inl ⟨t, ⟨Nat.lt_succ_self t, hw, fun U hU hP => ?_⟩, rfl, rfl⟩
        by_cases q : U = t
        · subst q
          unfold bet
          omega
        · have := f3 U (show U < t by have : U < t + 1 := hU; omega) hP
          unfold bet at *
          omega
      show ∃ lst' lwo', (if nI (wor n K t) < nI (wor n K T) then _ else if nI (wor n K t) = nI (wor n K T) then _ else _) = some (lst', lwo') ∧ _
      by_cases d1 : wor n K t < wor n K T
      · rw [if_pos ((nI_ltI (by omega) (by omega)).mpr d1)]
        exact ht (Or.inl d1)
      rw [if_neg (fun q => d1 ((nI_ltI (by omega) (by omega)).mp q))]
      by_cases d2 : wor n K t = wor n K T
      case neg =>
        rw [if_neg (fun q => d2 ((nI_eq (by omega) (by omega)).mp q))]
        exact hk (by unfold bet; omega)
      rw [if_pos (by rw [d2]), ones_N t (by omega), ones_N T (by omega), bd1_s, bd1_s]
      by_cases d3 : pop T ≤ pop t
      · rw [if_pos (nI_le d3 (by omega))]
        exact hk (by unfold bet; omega)
      · rw [if_neg (nI_ge (by omega) (by omega))]
        exact ht (Or.inr ⟨d2, Or.inl (by omega)⟩)
    · rw [if_pos (nI_mil (show sm (inS t fun k => K k 4) n < 1000 by have : sm (inS t fun k => K k 4) n ≤ n * 60 := wl; omega))]
      apply hh
      refine Or.inl ⟨t, ⟨Nat.lt_succ_self t, hw, fun U hU hP => ?_⟩, rfl, rfl⟩
      by_cases q : U = t
      · subst q
        unfold bet
        omega
      · exact absurd hP (hi U (show U < t by have : U < t + 1 := hU; omega))
theorem least_N {n S cv : Nat} {K : Nat → Nat → Nat} {x4 x5 a lst lwo : Int32} {Hd po : Nat → Nat} {w : Nat → Int32} (h : Mov n K x4 x5 Hd po) (hKB : KB n K) (hm : GMv n K w 0) (h0 : w 0 = nI n) (h2 : w 2 = nI cv) (hn : n ≤ 8) (hS : S < 2 ^ n) : ∃ lst' lwo', M_findLeast (nI S) a x4 x5 w lst lwo = some (lst', lwo') ∧ ((∃ T, fst1 n K (way n S cv K Hd po a) (fun U => U < 256) T ∧ lst' = nI T ∧ lwo' = nI (wor n K T)) ∨ ((∀ U, U < 256 → ¬ way n S cv K Hd po a U) ∧ lst' = -1)) := by
  unfold M_findLeast
  rw [show (0 : Int32) = nI 0 from rfl]
  exact least_L h hKB hm h0 h2 hn hS 256 0 FU (-1) 1000000 (by omega) (by unfold FU; omega) (Or.inr ⟨fun U hU => absurd hU (by omega), rfl, rfl⟩)
