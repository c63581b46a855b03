/-! PURE: the search, the class's choice -/
theorem sub_small {x y : Int32} (h1 : -100000 ≤ x.toInt) (h2 : x.toInt ≤ 100000) (h3 : -100000 ≤ y.toInt) (h4 : y.toInt ≤ 100000) : (x - y).toInt = x.toInt - y.toInt := by
  rw [Int32.toInt_sub, Int.bmod_def]
  omega
/-- T of three cuts -/
def tri3 (n S : Nat) (Hd po : Nat → Nat) (a b c : Nat) : Nat := cut n S Hd po 0 a ||| cut n S Hd po 1 b ||| cut n S Hd po 2 c
theorem tri_bit {n S : Nat} {Hd po : Nat → Nat} {a b c i : Nat} : (tri3 n S Hd po a b c).testBit i = true ↔ i < n ∧ S.testBit i = true ∧ ((Hd i = 0 ∧ a ≤ po i) ∨ (Hd i = 1 ∧ b ≤ po i) ∨ (Hd i = 2 ∧ c ≤ po i)) := by
  unfold tri3
  rw [Nat.testBit_or, Nat.testBit_or, Bool.or_eq_true, Bool.or_eq_true, cut_bit, cut_bit, cut_bit]
  constructor
  · rintro ((⟨a1, a2, a3, a4⟩ | ⟨a1, a2, a3, a4⟩) | ⟨a1, a2, a3, a4⟩)
    · exact ⟨a1, a2, Or.inl ⟨a3, a4⟩⟩
    · exact ⟨a1, a2, Or.inr (Or.inl ⟨a3, a4⟩)⟩
    · exact ⟨a1, a2, Or.inr (Or.inr ⟨a3, a4⟩)⟩
  · rintro ⟨a1, a2, (⟨a3, a4⟩ | ⟨a3, a4⟩ | ⟨a3, a4⟩)⟩
    · exact Or.inl (Or.inl ⟨a1, a2, a3, a4⟩)
    · exact Or.inl (Or.inr ⟨a1, a2, a3, a4⟩)
    · exact Or.inr ⟨a1, a2, a3, a4⟩
theorem tri_sm {n S : Nat} {Hd po : Nat → Nat} {a b c m : Nat} {f : Nat → Nat} : sm (inS (tri3 n S Hd po a b c) f) m = sm (inS (cut n S Hd po 0 a) f) m + sm (inS (cut n S Hd po 1 b) f) m + sm (inS (cut n S Hd po 2 c) f) m := by
  unfold tri3
  rw [sm_or, sm_or]
  · intro i hi q
    have q1 := cut_bit.mp q.1
    have q2 := cut_bit.mp q.2
    omega
  · intro i hi q
    have q2 := cut_bit.mp q.2
    have q1 := q.1
    rw [Nat.testBit_or, Bool.or_eq_true, cut_bit, cut_bit] at q1
    omega
theorem tri_lt {n S : Nat} {Hd po : Nat → Nat} {a b c : Nat} : tri3 n S Hd po a b c < 2 ^ n := Nat.or_lt_two_pow (Nat.or_lt_two_pow cut_lt cut_lt) cut_lt
theorem tri_sub {n S : Nat} {Hd po : Nat → Nat} {a b c : Nat} : sdf (tri3 n S Hd po a b c) S = 0 := sdf_0.mpr (fun i hi => (tri_bit.mp hi).2.1)
theorem tri_up {n S : Nat} {Hd po : Nat → Nat} {a b c : Nat} : upc n S Hd po (tri3 n S Hd po a b c) := by
  intro k hk hT i hi hS hTi hH hp
  have q := (tri_bit.mp hT).2.2
  have : (tri3 n S Hd po a b c).testBit i = true := tri_bit.mpr ⟨hi, hS, by omega⟩
  rw [hTi] at this
  exact Bool.noConfusion this
theorem hvy_sub {n S T : Nat} {K : Nat → Nat → Nat} (h : sdf T S = 0) : hvy n K S = hvy n K T + hvy n K (sdf S T) := by
  unfold hvy
  rw [← sm_or]
  · congr 2
    apply bits_eq
    intro i
    have := sdf_0.mp h i
    rw [Nat.testBit_or, sdf_bit]
    cases e1 : T.testBit i <;> cases e2 : S.testBit i <;> simp
    rw [e1, e2] at this
    exact absurd (this rfl) (by decide)
  · intro i hi q
    rw [sdf_bit, q.1] at q
    simp at q
theorem tri_way {n S cv : Nat} {K : Nat → Nat → Nat} {Hd po : Nat → Nat} {x : Int32} {a b c : Nat} (hKB : KB n K) (hn : n ≤ 8) (hcv : cv ≤ 200) (h1 : -1000 ≤ x.toInt) (h2 : x.toInt ≤ 1000) : way n S cv K Hd po x (tri3 n S Hd po a b c) ↔ nI (hvy n K S) - (nI cv - x) ≤ nI (hvy n K (tri3 n S Hd po a b c)) := by
  have l1 := hvy_le hKB S
  have l2 := hvy_le hKB (tri3 n S Hd po a b c)
  have l3 := hvy_le hKB (sdf S (tri3 n S Hd po a b c))
  have hs := hvy_sub (n := n) (K := K) (tri_sub (n := n) (S := S) (Hd := Hd) (po := po) (a := a) (b := b) (c := c))
  have t1 : (nI cv).toInt = cv := nI_toInt (by omega)
  have t2 : (nI cv - x).toInt = cv - x.toInt := by rw [sub_small (by omega) (by omega) (by omega) (by omega), t1]
  have t3 : (nI (hvy n K S)).toInt = hvy n K S := nI_toInt (by omega)
  have t4 : (nI (hvy n K S) - (nI cv - x)).toInt = hvy n K S - (cv - x.toInt) := by rw [sub_small (by omega) (by omega) (by omega) (by omega), t2, t3]
  rw [Int32.le_iff_toInt_le, t4, nI_toInt (by omega)]
  unfold way
  rw [Int32.lt_iff_toInt_lt, t2, nI_toInt (by omega)]
  constructor
  · intro q
    have := q.2.2
    omega
  · intro q
    exact ⟨tri_sub, tri_up, by omega⟩
/-- the best so far -/
def InvB (n : Nat) (K : Nat → Nat → Nat) (P V : Nat → Prop) (qbb qbc qbw : Int32) : Prop := (∀ U, V U → U < 256) ∧ ((∃ T, fst1 n K P V T ∧ qbb = nI T ∧ qbc = nI (pop T) ∧ qbw = nI (wor n K T)) ∨ ((∀ U, V U → ¬ P U) ∧ qbb = -1))
theorem keep_N {n : Nat} {K : Nat → Nat → Nat} {P V : Nat → Prop} {qbb qbc qbw : Int32} {T : Nat} (hn : n ≤ 8) (hKB : KB n K) (hT : T < 256) (hP : P T) (hi : InvB n K P V qbb qbc qbw) : ∃ x y z, Q_keepIfBetter (nI T) (nI (pop T)) (nI (wor n K T)) qbb qbc qbw = some (x, y, z) ∧ InvB n K P (fun U => V U ∨ U = T) x y z := by
  obtain ⟨hv, hi⟩ := hi
  have hv' : ∀ U, (V U ∨ U = T) → U < 256 := fun U q => by
    rcases q with q | q
    · exact hv U q
    · omega
  have bT : ¬ bet n K T T := by unfold bet; omega
  unfold Q_keepIfBetter Q_keepIfBetter_19 Q_isBetter
  rcases hi with ⟨B, ⟨f1, f2, f3⟩, rfl, rfl, rfl⟩ | ⟨hno, rfl⟩
  · have hB := hv B f1
    have w1 := wor_le hKB T
    have w2 := wor_le hKB B
    have p1 := pop_le T hT
    have p2 := pop_le B hB
    have take : bet n K T B → InvB n K P (fun U => V U ∨ U = T) (nI T) (nI (pop T)) (nI (wor n K T)) := by
      intro hb
      refine ⟨hv', Or.inl ⟨T, ⟨Or.inr rfl, hP, fun U hU hPU => ?_⟩, rfl, rfl, rfl⟩⟩
      rcases hU with hU | hU
      · have := f3 U hU hPU
        unfold bet at *
        omega
      · rw [hU]; exact bT
    have stay : ¬ bet n K T B → InvB n K P (fun U => V U ∨ U = T) (nI B) (nI (pop B)) (nI (wor n K B)) := by
      intro hb
      refine ⟨hv', Or.inl ⟨B, ⟨Or.inl f1, f2, fun U hU hPU => ?_⟩, rfl, rfl, rfl⟩⟩
      rcases hU with hU | hU
      · exact f3 U hU hPU
      · rw [hU]; exact hb
    rw [if_neg (nI_m1 (by omega))]
    by_cases c1 : wor n K T = wor n K B
    · rw [if_pos (by rw [c1])]
      by_cases c2 : pop T = pop B
      · rw [if_pos (by rw [c2])]
        by_cases c3 : B ≤ T
        · rw [if_pos (nI_le c3 (by omega))]
          exact ⟨_, _, _, rfl, stay (by unfold bet; omega)⟩
        · rw [if_neg (nI_ge (by omega) (by omega))]
          exact ⟨_, _, _, rfl, take (by unfold bet; omega)⟩
      · rw [if_neg (fun q => c2 ((nI_eq (by omega) (by omega)).mp q))]
        by_cases c3 : pop B ≤ pop T
        · rw [if_pos (nI_le c3 (by omega))]
          exact ⟨_, _, _, rfl, stay (by unfold bet; omega)⟩
        · rw [if_neg (nI_ge (by omega) (by omega))]
          exact ⟨_, _, _, rfl, take (by unfold bet; omega)⟩
    · rw [if_neg (fun q => c1 ((nI_eq (by omega) (by omega)).mp q))]
      by_cases c3 : wor n K B ≤ wor n K T
      · rw [if_pos (nI_le c3 (by omega))]
        exact ⟨_, _, _, rfl, stay (by unfold bet; omega)⟩
      · rw [if_neg (nI_ge (by omega) (by omega))]
        exact ⟨_, _, _, rfl, take (by unfold bet; omega)⟩
  · rw [if_pos rfl]
    refine ⟨_, _, _, rfl, hv', Or.inl ⟨T, ⟨Or.inr rfl, hP, fun U hU hPU => ?_⟩, rfl, rfl, rfl⟩⟩
    rcases hU with hU | hU
    · exact absurd hPU (hno U hU)
    · rw [hU]; exact bT
theorem InvB.no {n : Nat} {K : Nat → Nat → Nat} {P V : Nat → Prop} {qbb qbc qbw : Int32} {T : Nat} (hT : T < 256) (hP : ¬ P T) (hi : InvB n K P V qbb qbc qbw) : InvB n K P (fun U => V U ∨ U = T) qbb qbc qbw := by
  obtain ⟨hv, hi⟩ := hi
  refine ⟨fun U q => ?_, ?_⟩
  · rcases q with q | q
    · exact hv U q
    · omega
  · rcases hi with ⟨B, ⟨f1, f2, f3⟩, e⟩ | ⟨hno, e⟩
    · refine Or.inl ⟨B, ⟨Or.inl f1, f2, fun U hU hPU => ?_⟩, e⟩
      rcases hU with hU | hU
      · exact f3 U hU hPU
      · rw [hU] at hPU; exact absurd hPU hP
    · refine Or.inr ⟨fun U hU => ?_, e⟩
      rcases hU with hU | hU
      · exact hno U hU
      · rw [hU]; exact hP
theorem consider_N {n S cv : Nat} {K : Nat → Nat → Nat} {Hd po : Nat → Nat} {x : Int32} {V : Nat → Prop} {qhe qbi qhv qwo : Nat → Int32} {qbb qbc qbw : Int32} {a b c : Nat} (hKB : KB n K) (hn : n ≤ 8) (hcv : cv ≤ 200) (h1 : -1000 ≤ x.toInt) (h2 : x.toInt ≤ 1000) (hp : ∀ h, h < 3 → pil n S K Hd po h 0 qhe qbi qhv qwo) (ha : a ≤ 9) (hb : b ≤ 9) (hc : c ≤ 9) (hi : InvB n K (way n S cv K Hd po x) V qbb qbc qbw) : ∃ x' y' z', Q_consider (nI (pop (cut n S Hd po 0 a))) (nI (pop (cut n S Hd po 1 b))) (nI (pop (cut n S Hd po 2 c))) qbi qhv qwo (nI (hvy n K S) - (nI cv - x)) qbb qbc qbw = some (x', y', z') ∧ InvB n K (way n S cv K Hd po x) (fun U => V U ∨ U = tri3 n S Hd po a b c) x' y' z' := by
  have A := (hp 0 (by omega)).2.1 a (by omega) ha
  have B := (hp 1 (by omega)).2.1 b (by omega) hb
  have C := (hp 2 (by omega)).2.1 c (by omega) hc
  have pa := pop_le _ (lt256 (cut_lt (n := n) (S := S) (Hd := Hd) (po := po) (h := 0) (p := a)) hn)
  have pb := pop_le _ (lt256 (cut_lt (n := n) (S := S) (Hd := Hd) (po := po) (h := 1) (p := b)) hn)
  have pc := pop_le _ (lt256 (cut_lt (n := n) (S := S) (Hd := Hd) (po := po) (h := 2) (p := c)) hn)
  have eh : hvy n K (tri3 n S Hd po a b c) = hvy n K (cut n S Hd po 0 a) + hvy n K (cut n S Hd po 1 b) + hvy n K (cut n S Hd po 2 c) := tri_sm
  have ew : wor n K (tri3 n S Hd po a b c) = wor n K (cut n S Hd po 0 a) + wor n K (cut n S Hd po 1 b) + wor n K (cut n S Hd po 2 c) := tri_sm
  have ep : pop (tri3 n S Hd po a b c) = pop (cut n S Hd po 0 a) + pop (cut n S Hd po 1 b) + pop (cut n S Hd po 2 c) := tri_sm
  have hlt := lt256 (tri_lt (n := n) (S := S) (Hd := Hd) (po := po) (a := a) (b := b) (c := c)) hn
  have hw := tri_way (S := S) (Hd := Hd) (po := po) (a := a) (b := b) (c := c) hKB hn hcv h1 h2
  rw [show 9 * 0 + pop (cut n S Hd po 0 a) = pop (cut n S Hd po 0 a) by omega] at A
  rw [show 9 * 1 + pop (cut n S Hd po 1 b) = 9 + pop (cut n S Hd po 1 b) by omega] at B
  rw [show 9 * 2 + pop (cut n S Hd po 2 c) = 18 + pop (cut n S Hd po 2 c) by omega] at C
  generalize pop (cut n S Hd po 0 a) = u0 at *
  generalize pop (cut n S Hd po 1 b) = u1 at *
  generalize pop (cut n S Hd po 2 c) = u2 at *
  unfold Q_consider
  simp only [bnd]
  rw [show (9 : Int32) + nI u1 = nI (9 + u1) from nI_add 9 u1, show (18 : Int32) + nI u2 = nI (18 + u2) from nI_add 18 u2, within_w, within_w, within_w, bd1_s, bd1_s, bd1_s, ite_10, ite_10, ite_10, if_pos (show (0 : Int32) ≤ nI u0 ∧ nI u0 ≤ 8 from rng_in (m := 8) pa (by omega)), if_pos (show (9 : Int32) ≤ nI (9 + u1) ∧ nI (9 + u1) ≤ 17 from ⟨show nI 9 ≤ nI (9 + u1) from nI_le (by omega) (by omega), show nI (9 + u1) ≤ nI 17 from nI_le (by omega) (by omega)⟩), if_pos (show (18 : Int32) ≤ nI (18 + u2) ∧ nI (18 + u2) ≤ 26 from ⟨show nI 18 ≤ nI (18 + u2) from nI_le (by omega) (by omega), show nI (18 + u2) ≤ nI 26 from nI_le (by omega) (by omega)⟩)]
  rw [inb_t (i := u0) (by omega) (by omega), inb_t (i := 9 + u1) (by omega) (by omega), inb_t (i := 18 + u2) (by omega) (by omega), nI_clamp (n := u0) (by omega), nI_clamp (n := 9 + u1) (by omega), nI_clamp (n := 18 + u2) (by omega), A.1, A.2.1, A.2.2, B.1, B.2.1, B.2.2, C.1, C.2.1, C.2.2]
  simp only [ck]
  rw [or_N, or_N, nI_add, nI_add, nI_add, nI_add, nI_add, nI_add, ← eh, ← ew, ← ep, show cut n S Hd po 0 a ||| cut n S Hd po 1 b ||| cut n S Hd po 2 c = tri3 n S Hd po a b c from rfl]
  by_cases q : nI (hvy n K S) - (nI cv - x) ≤ nI (hvy n K (tri3 n S Hd po a b c))
  · rw [if_pos q]
    obtain ⟨x', y', z', e1, e2⟩ := keep_N hn hKB hlt (hw.mpr q) hi
    rw [e1]
    exact ⟨_, _, _, rfl, e2⟩
  · rw [if_neg q]
    exact ⟨_, _, _, rfl, hi.no hlt (fun r => q (hw.mp r))⟩
