/-! PURE: the search, its loops and its end -/
theorem pop_mono {a b : Nat} (h : ∀ i, a.testBit i = true → b.testBit i = true) : pop a ≤ pop b := by
  unfold pop
  have : b = a ||| sdf b a := by
    apply bits_eq
    intro i
    rw [Nat.testBit_or, sdf_bit]
    have := h i
    cases e1 : a.testBit i <;> cases e2 : b.testBit i <;> simp
    rw [e1, e2] at this
    exact absurd (this rfl) (by decide)
  rw [this, sm_or]
  · omega
  · intro i hi q
    rw [sdf_bit, q.1] at q
    simp at q
theorem cut_mono {n S : Nat} {Hd po : Nat → Nat} {h q : Nat} : pop (cut n S Hd po h q) ≤ pop (cut n S Hd po h 0) := pop_mono (fun i hi => by
  obtain ⟨t1, t2, t3, t4⟩ := cut_bit.mp hi
  exact cut_bit.mpr ⟨t1, t2, t3, by omega⟩)
theorem cut_same {n S : Nat} {K : Nat → Nat → Nat} {Hd po : Nat → Nat} {h q q' : Nat} {qhe qbi qhv qwo : Nat → Int32} (hn : n ≤ 8) (hp : pil n S K Hd po h 0 qhe qbi qhv qwo) (hq : q ≤ 9) (hq' : q' ≤ 9) (e : pop (cut n S Hd po h q) = pop (cut n S Hd po h q')) : cut n S Hd po h q = cut n S Hd po h q' := by
  have a := (hp.2.1 q (by omega) hq).1
  have b := (hp.2.1 q' (by omega) hq').1
  rw [e, b] at a
  have l1 := lt256 (cut_lt (n := n) (S := S) (Hd := Hd) (po := po) (h := h) (p := q)) hn
  have l2 := lt256 (cut_lt (n := n) (S := S) (Hd := Hd) (po := po) (h := h) (p := q')) hn
  exact ((nI_eq (by omega) (by omega)).mp a).symm
theorem tri_same {n S : Nat} {K : Nat → Nat → Nat} {Hd po : Nat → Nat} {a b c a' b' c' : Nat} {qhe qbi qhv qwo : Nat → Int32} (hn : n ≤ 8) (hp : ∀ h, h < 3 → pil n S K Hd po h 0 qhe qbi qhv qwo) (ha : a ≤ 9) (hb : b ≤ 9) (hc : c ≤ 9) (ha' : a' ≤ 9) (hb' : b' ≤ 9) (hc' : c' ≤ 9) (e0 : pop (cut n S Hd po 0 a) = pop (cut n S Hd po 0 a')) (e1 : pop (cut n S Hd po 1 b) = pop (cut n S Hd po 1 b')) (e2 : pop (cut n S Hd po 2 c) = pop (cut n S Hd po 2 c')) : tri3 n S Hd po a b c = tri3 n S Hd po a' b' c' := by
  unfold tri3
  rw [cut_same hn (hp 0 (by omega)) ha ha' e0, cut_same hn (hp 1 (by omega)) hb hb' e1, cut_same hn (hp 2 (by omega)) hc hc' e2]
def D2 (n S : Nat) (Hd po : Nat → Nat) (V : Nat → Prop) (u0 u1 u2 : Nat) : Prop := ∀ a b c, a ≤ 9 → b ≤ 9 → c ≤ 9 → pop (cut n S Hd po 0 a) = u0 → pop (cut n S Hd po 1 b) = u1 → pop (cut n S Hd po 2 c) < u2 → V (tri3 n S Hd po a b c)
def D1 (n S : Nat) (Hd po : Nat → Nat) (V : Nat → Prop) (u0 u1 : Nat) : Prop := ∀ a b c, a ≤ 9 → b ≤ 9 → c ≤ 9 → pop (cut n S Hd po 0 a) = u0 → pop (cut n S Hd po 1 b) < u1 → V (tri3 n S Hd po a b c)
def D0 (n S : Nat) (Hd po : Nat → Nat) (V : Nat → Prop) (u0 : Nat) : Prop := ∀ a b c, a ≤ 9 → b ≤ 9 → c ≤ 9 → pop (cut n S Hd po 0 a) < u0 → V (tri3 n S Hd po a b c)
theorem ch53_L {n S cv : Nat} {K : Nat → Nat → Nat} {Hd po : Nat → Nat} {x : Int32} {qhe qbi qhv qwo fc : Nat → Int32} {cca csi : Int32} {u0 u1 : Nat} {rc25 : Int32 → (Nat → Int32) → (Nat → Int32) → (Nat → Int32) → (Nat → Int32) → Int32 → Int32 → Int32 → Int32 → Int32 → Int32 → (Nat → Int32) → Option (Int32 × Int32 × Int32 × Int32 × Int32)} {rc39 : Int32 → Int32 → (Nat → Int32) → (Nat → Int32) → (Nat → Int32) → (Nat → Int32) → Int32 → Int32 → Int32 → Int32 → Int32 → Int32 → (Nat → Int32) → Option (Int32 × Int32 × Int32 × Int32 × Int32)} (hKB : KB n K) (hn : n ≤ 8) (hcv : cv ≤ 200) (h1 : -1000 ≤ x.toInt) (h2 : x.toInt ≤ 1000) (hp : ∀ h, h < 3 → pil n S K Hd po h 0 qhe qbi qhv qwo) (hu0 : u0 ≤ pop (cut n S Hd po 0 0)) (hu1 : u1 ≤ pop (cut n S Hd po 1 0)) : ∀ d u2 fuel V qbb qbc qbw, u2 + d = pop (cut n S Hd po 2 0) + 1 → d < fuel → InvB n K (way n S cv K Hd po x) V qbb qbc qbw → D2 n S Hd po V u0 u1 u2 → ∃ x' y' z' V', Q_choose_L53 rc25 rc39 fuel (nI u0) (nI u1) (nI u2) qhe qbi qhv qwo (nI (hvy n K S) - (nI cv - x)) qbb qbc qbw cca csi fc = rc39 (nI u0) (nI (u1 + 1)) qhe qbi qhv qwo (nI (hvy n K S) - (nI cv - x)) x' y' z' cca csi fc ∧ InvB n K (way n S cv K Hd po x) V' x' y' z' ∧ (∀ U, V U → V' U) ∧ D2 n S Hd po V' u0 u1 (pop (cut n S Hd po 2 0) + 1) := by
  have e8 := pop_le _ (lt256 (cut_lt (n := n) (S := S) (Hd := Hd) (po := po) (h := 2) (p := 0)) hn)
  have q2 := (hp 2 (by omega)).1
  intro d
  induction d with
  | zero =>
    intro u2 fuel V qbb qbc qbw hu hf hi hd
    obtain ⟨g, rfl⟩ := fuel1 hf
    have hu : u2 = pop (cut n S Hd po 2 0) + 1 := by omega
    subst hu
    rw [Q_choose_L53, Q_choose_53, q2, if_pos ((nI_ltI (by omega) (by omega)).mpr (by omega))]
    simp only [bnd]
    rw [nI_1]
    exact ⟨_, _, _, V, rfl, hi, fun _ h => h, hd⟩
  | succ d ih =>
    intro u2 fuel V qbb qbc qbw hu hf hi hd
    obtain ⟨g, rfl⟩ := fuel1 hf
    obtain ⟨a, -, ha, ea⟩ := (hp 0 (by omega)).2.2 u0 hu0
    obtain ⟨b, -, hb, eb⟩ := (hp 1 (by omega)).2.2 u1 hu1
    obtain ⟨c, -, hc, ec⟩ := (hp 2 (by omega)).2.2 u2 (by omega)
    obtain ⟨x', y', z', e1, e2⟩ := consider_N hKB hn hcv h1 h2 hp ha hb hc hi
    rw [ea, eb, ec] at e1
    rw [Q_choose_L53, Q_choose_53, q2, if_neg (fun q => absurd ((nI_ltI (by omega) (by omega)).mp q) (by omega)), e1]
    simp only [bd3, bnd]
    rw [nI_1]
    obtain ⟨x2, y2, z2, V', r1, r2, r3, r4⟩ := ih (u2 + 1) g (fun U => V U ∨ U = tri3 n S Hd po a b c) x' y' z' (by omega) (by omega) e2 (by
      intro a' b' c' ha' hb' hc' ea' eb' ec'
      by_cases r : pop (cut n S Hd po 2 c') = u2
      · right
        exact tri_same hn hp ha' hb' hc' ha hb hc (by omega) (by omega) (by omega)
      · left
        exact hd a' b' c' ha' hb' hc' ea' eb' (by omega))
    exact ⟨x2, y2, z2, V', r1, r2, fun U h => r3 U (Or.inl h), r4⟩
theorem ch39_L {n S cv : Nat} {K : Nat → Nat → Nat} {Hd po : Nat → Nat} {x : Int32} {qhe qbi qhv qwo fc : Nat → Int32} {cca csi : Int32} {u0 : Nat} {rc25 : Int32 → (Nat → Int32) → (Nat → Int32) → (Nat → Int32) → (Nat → Int32) → Int32 → Int32 → Int32 → Int32 → Int32 → Int32 → (Nat → Int32) → Option (Int32 × Int32 × Int32 × Int32 × Int32)} (hKB : KB n K) (hn : n ≤ 8) (hcv : cv ≤ 200) (h1 : -1000 ≤ x.toInt) (h2 : x.toInt ≤ 1000) (hp : ∀ h, h < 3 → pil n S K Hd po h 0 qhe qbi qhv qwo) (hu0 : u0 ≤ pop (cut n S Hd po 0 0)) : ∀ d u1 fuel V qbb qbc qbw, u1 + d = pop (cut n S Hd po 1 0) + 1 → d < fuel → InvB n K (way n S cv K Hd po x) V qbb qbc qbw → D1 n S Hd po V u0 u1 → ∃ x' y' z' V', Q_choose_L39 rc25 fuel (nI u0) (nI u1) qhe qbi qhv qwo (nI (hvy n K S) - (nI cv - x)) qbb qbc qbw cca csi fc = rc25 (nI (u0 + 1)) qhe qbi qhv qwo (nI (hvy n K S) - (nI cv - x)) x' y' z' cca csi fc ∧ InvB n K (way n S cv K Hd po x) V' x' y' z' ∧ (∀ U, V U → V' U) ∧ D1 n S Hd po V' u0 (pop (cut n S Hd po 1 0) + 1) := by
  have e8 := pop_le _ (lt256 (cut_lt (n := n) (S := S) (Hd := Hd) (po := po) (h := 1) (p := 0)) hn)
  have e82 := pop_le _ (lt256 (cut_lt (n := n) (S := S) (Hd := Hd) (po := po) (h := 2) (p := 0)) hn)
  have q1 := (hp 1 (by omega)).1
  intro d
  induction d with
  | zero =>
    intro u1 fuel V qbb qbc qbw hu hf hi hd
    obtain ⟨g, rfl⟩ := fuel1 hf
    have hu : u1 = pop (cut n S Hd po 1 0) + 1 := by omega
    subst hu
    rw [Q_choose_L39, Q_choose_39, q1, if_pos ((nI_ltI (by omega) (by omega)).mpr (by omega))]
    simp only [bnd]
    rw [nI_1]
    exact ⟨_, _, _, V, rfl, hi, fun _ h => h, hd⟩
  | succ d ih =>
    intro u1 fuel V qbb qbc qbw hu hf hi hd
    obtain ⟨g, rfl⟩ := fuel1 hf
    rw [Q_choose_L39, Q_choose_39, q1, if_neg (fun q => absurd ((nI_ltI (by omega) (by omega)).mp q) (by omega)), show (0 : Int32) = nI 0 from rfl]
    obtain ⟨x', y', z', V1, r1, r2, r3, r4⟩ := ch53_L (rc25 := rc25) (rc39 := Q_choose_L39 rc25 g) (fc := fc) (cca := cca) (csi := csi) hKB hn hcv h1 h2 hp hu0 (show u1 ≤ pop (cut n S Hd po 1 0) by omega) (pop (cut n S Hd po 2 0) + 1) 0 FU V qbb qbc qbw (by omega) (by unfold FU; omega) hi (fun a b c _ _ _ _ _ q => absurd q (by omega))
    rw [r1]
    obtain ⟨x2, y2, z2, V', s1, s2, s3, s4⟩ := ih (u1 + 1) g V1 x' y' z' (by omega) (by omega) r2 (by
      intro a b c ha hb hc ea eb
      by_cases r : pop (cut n S Hd po 1 b) = u1
      · exact r4 a b c ha hb hc ea r (Nat.lt_succ_of_le cut_mono)
      · exact r3 _ (hd a b c ha hb hc ea (by omega)))
    exact ⟨x2, y2, z2, V', s1, s2, fun U h => s3 U (r3 U h), s4⟩
theorem ch25_L {n S cv : Nat} {K : Nat → Nat → Nat} {Hd po : Nat → Nat} {x : Int32} {qhe qbi qhv qwo fc : Nat → Int32} {cca csi : Int32} (hKB : KB n K) (hn : n ≤ 8) (hcv : cv ≤ 200) (h1 : -1000 ≤ x.toInt) (h2 : x.toInt ≤ 1000) (hp : ∀ h, h < 3 → pil n S K Hd po h 0 qhe qbi qhv qwo) : ∀ d u0 fuel V qbb qbc qbw, u0 + d = pop (cut n S Hd po 0 0) + 1 → d < fuel → InvB n K (way n S cv K Hd po x) V qbb qbc qbw → D0 n S Hd po V u0 → ∃ x' y' z' V', Q_choose_L25 fuel (nI u0) qhe qbi qhv qwo (nI (hvy n K S) - (nI cv - x)) qbb qbc qbw cca csi fc = some (x', nI (hvy n K S) - (nI cv - x), x', y', z') ∧ InvB n K (way n S cv K Hd po x) V' x' y' z' ∧ D0 n S Hd po V' (pop (cut n S Hd po 0 0) + 1) := by
  have e8 := pop_le _ (lt256 (cut_lt (n := n) (S := S) (Hd := Hd) (po := po) (h := 0) (p := 0)) hn)
  have e81 := pop_le _ (lt256 (cut_lt (n := n) (S := S) (Hd := Hd) (po := po) (h := 1) (p := 0)) hn)
  have q0 := (hp 0 (by omega)).1
  intro d
  induction d with
  | zero =>
    intro u0 fuel V qbb qbc qbw hu hf hi hd
    obtain ⟨g, rfl⟩ := fuel1 hf
    have hu : u0 = pop (cut n S Hd po 0 0) + 1 := by omega
    subst hu
    rw [Q_choose_L25, Q_choose_25, q0, if_pos ((nI_ltI (by omega) (by omega)).mpr (by omega))]
    exact ⟨_, _, _, V, rfl, hi, hd⟩
  | succ d ih =>
    intro u0 fuel V qbb qbc qbw hu hf hi hd
    obtain ⟨g, rfl⟩ := fuel1 hf
    rw [Q_choose_L25, Q_choose_25, q0, if_neg (fun q => absurd ((nI_ltI (by omega) (by omega)).mp q) (by omega)), show (0 : Int32) = nI 0 from rfl]
    obtain ⟨x', y', z', V1, r1, r2, r3, r4⟩ := ch39_L (rc25 := Q_choose_L25 g) (fc := fc) (cca := cca) (csi := csi) hKB hn hcv h1 h2 hp (show u0 ≤ pop (cut n S Hd po 0 0) by omega) (pop (cut n S Hd po 1 0) + 1) 0 FU V qbb qbc qbw (by omega) (by unfold FU; omega) hi (fun a b c _ _ _ _ q => absurd q (by omega))
    rw [r1]
    exact ih (u0 + 1) g V1 x' y' z' (by omega) (by omega) r2 (by
      intro a b c ha hb hc ea
      by_cases r : pop (cut n S Hd po 0 a) = u0
      · exact r4 a b c ha hb hc r (Nat.lt_succ_of_le cut_mono)
      · exact r3 _ (hd a b c ha hb hc (by omega)))
/-- what may go is a cut in each hold -/
theorem level {n S U : Nat} {K : Nat → Nat → Nat} {x4 x5 : Int32} {Hd po : Nat → Nat} (hM : Mov n K x4 x5 Hd po) (hn : n ≤ 8) (hu : upc n S Hd po U) (h : Nat) : ∃ q, q ≤ 9 ∧ ∀ i, i < n → S.testBit i = true → Hd i = h → (U.testBit i = true ↔ q ≤ po i) := by
  have go : ∀ d q, q + d = 9 → (∀ i, i < n → S.testBit i = true → Hd i = h → q + d ≤ po i → U.testBit i = true) → ∃ q, q ≤ 9 ∧ (∀ i, i < n → S.testBit i = true → Hd i = h → q ≤ po i → U.testBit i = true) ∧ (q = 0 ∨ ∃ j, j < n ∧ S.testBit j = true ∧ Hd j = h ∧ q ≤ po j + 1 ∧ U.testBit j = false) := by
    intro d q hd hq
    have key : ∀ t, t ≤ 9 → (∀ i, i < n → S.testBit i = true → Hd i = h → t ≤ po i → U.testBit i = true) → ∃ q, q ≤ 9 ∧ (∀ i, i < n → S.testBit i = true → Hd i = h → q ≤ po i → U.testBit i = true) ∧ (q = 0 ∨ ∃ j, j < n ∧ S.testBit j = true ∧ Hd j = h ∧ q ≤ po j + 1 ∧ U.testBit j = false) := by
      intro t
      induction t with
      | zero => intro h9 hall; exact ⟨0, by omega, hall, Or.inl rfl⟩
      | succ t iht =>
        intro h9 hall
        by_cases r : ∀ i, i < n → S.testBit i = true → Hd i = h → t ≤ po i → U.testBit i = true
        · exact iht (by omega) r
        · refine ⟨t + 1, h9, hall, Or.inr ?_⟩
          apply Classical.byContradiction
          intro hno
          apply r
          intro i hi hS hH hp
          cases e : U.testBit i
          · exact absurd ⟨i, hi, hS, hH, by omega, e⟩ hno
          · rfl
    exact key 9 (by omega) (by rw [hd] at hq; exact hq)
  obtain ⟨q, q9, q1, q2⟩ := go 9 0 (by omega) (fun i hi _ _ hp => by have := hM.po8 hn hi; omega)
  refine ⟨q, q9, fun i hi hS hH => ⟨fun hU => ?_, q1 i hi hS hH⟩⟩
  rcases q2 with q2 | ⟨j, hj, hSj, hHj, hpj, hUj⟩
  · omega
  · apply Classical.byContradiction
    intro hlt
    have hne : i ≠ j := by
      intro e
      subst e
      rw [hU] at hUj
      exact Bool.noConfusion hUj
    have h1 := hu i hi hU j hj hSj hUj (by rw [hHj, hH])
    have h2 : po i ≠ po j := fun e => hne (hM.inj hn hi hj e)
    omega
theorem way_tri {n S U cv : Nat} {K : Nat → Nat → Nat} {x4 x5 x : Int32} {Hd po : Nat → Nat} (hM : Mov n K x4 x5 Hd po) (hKB : KB n K) (hn : n ≤ 8) (hS : S < 2 ^ n) (hw : way n S cv K Hd po x U) : ∃ a b c, a ≤ 9 ∧ b ≤ 9 ∧ c ≤ 9 ∧ U = tri3 n S Hd po a b c := by
  obtain ⟨a, ha, ea⟩ := level hM hn hw.2.1 0
  obtain ⟨b, hb, eb⟩ := level hM hn hw.2.1 1
  obtain ⟨c, hc, ec⟩ := level hM hn hw.2.1 2
  refine ⟨a, b, c, ha, hb, hc, ?_⟩
  apply bits_eq
  intro i
  rw [tri_bit]
  constructor
  · intro hU
    have hSi := sdf_0.mp hw.1 i hU
    have hi := bit_lt hS hSi
    have hH := hM.le hKB i hi
    refine ⟨hi, hSi, ?_⟩
    rcases (show Hd i = 0 ∨ Hd i = 1 ∨ Hd i = 2 by omega) with q | q | q
    · exact Or.inl ⟨q, (ea i hi hSi q).mp hU⟩
    · exact Or.inr (Or.inl ⟨q, (eb i hi hSi q).mp hU⟩)
    · exact Or.inr (Or.inr ⟨q, (ec i hi hSi q).mp hU⟩)
  · rintro ⟨hi, hSi, (⟨q, r⟩ | ⟨q, r⟩ | ⟨q, r⟩)⟩
    · exact (ea i hi hSi q).mpr r
    · exact (eb i hi hSi q).mpr r
    · exact (ec i hi hSi q).mpr r
theorem find_N {n S cv : Nat} {K : Nat → Nat → Nat} {x4 x5 x : Int32} {Hd po : Nat → Nat} {fc qhe qbi qhv qwo : Nat → Int32} {qts qbb qbc qbw : Int32} (hM : Mov n K x4 x5 Hd po) (hx : x4 = -1 → x5 = -1) (hin : ∀ m, m < n → x4 = nI m → S.testBit m = true) (hc : GCv n K fc) (hKB : KB n K) (hn : n ≤ 8) (hS : S < 2 ^ n) (hcv : cv ≤ 200) (h1 : -1000 ≤ x.toInt) (h2 : x.toInt ≤ 1000) (hq : Sch qbi qhv qwo) : ∃ r a b c e u v y z, bd4 (Q_pileUp (nI S) x4 x5 qhe qbi qhv qwo (nI n) fc) (fun qhe_1 qbi_2 qhv_3 qwo_4 => bd5 (Q_choose (nI S) x qhe_1 qbi_2 qhv_3 qwo_4 qts qbb qbc qbw (nI cv) (nI n) fc) (fun r_5 qts_6 qbb_7 qbc_8 qbw_9 => some (r_5, qhe_1, qbi_2, qhv_3, qwo_4, qts_6, qbb_7, qbc_8, qbw_9))) = some (r, a, b, c, e, u, v, y, z) ∧ Sch b c e ∧ ((∃ T, fst1 n K (way n S cv K Hd po x) (fun U => U < 256) T ∧ r = nI T) ∨ ((∀ U, U < 256 → ¬ way n S cv K Hd po x U) ∧ r = -1)) := by
  have hS8 := lt256 hS hn
  obtain ⟨a, b, c, e, p1, p2, p3⟩ := pile_L3 hM hx hin hc hKB hn hS 3 0 FU qhe qbi qhv qwo (by omega) (by unfold FU; omega) (fun h' q => absurd q (by omega)) hq
  have ht : C_total (nI S) 3 (nI n) fc = some (nI (hvy n K S)) := total_N (j := 3) hc hn (by omega) (by omega)
  have e8 := pop_le _ (lt256 (cut_lt (n := n) (S := S) (Hd := Hd) (po := po) (h := 0) (p := 0)) hn)
  obtain ⟨x', y', z', V', c1, c2, c3⟩ := ch25_L (fc := fc) (cca := nI cv) (csi := nI n) hKB hn hcv h1 h2 p2 (pop (cut n S Hd po 0 0) + 1) 0 FU (fun _ => False) (-1) qbc qbw (by omega) (by unfold FU; omega) ⟨fun U q => False.elim q, Or.inr ⟨fun U q => False.elim q, rfl⟩⟩ (fun a b c _ _ _ q => absurd q (by omega))
  have all : ∀ U, way n S cv K Hd po x U → V' U := by
    intro U hU
    obtain ⟨qa, qb, qc, la, lb, lc, rfl⟩ := way_tri hM hKB hn hS hU
    exact c3 qa qb qc la lb lc (Nat.lt_succ_of_le cut_mono)
  unfold Q_pileUp
  rw [show (0 : Int32) = nI 0 from rfl, p1]
  simp only [bd4]
  unfold Q_choose
  rw [ht, bd1_s]
  simp only [bnd]
  rw [show (0 : Int32) = nI 0 from rfl, c1]
  refine ⟨_, _, _, _, _, _, _, _, _, rfl, p3, ?_⟩
  obtain ⟨hv, q⟩ := c2
  rcases q with ⟨T, ⟨f1, f2, f3⟩, e1, -⟩ | ⟨hno, e1⟩
  · exact Or.inl ⟨T, ⟨hv T f1, f2, fun U _ hU => f3 U (all U hU) hU⟩, e1⟩
  · exact Or.inr ⟨fun U _ hU => hno U (all U hU) hU, e1⟩
/-- both find the same -/
theorem both_N {n S cv : Nat} {K : Nat → Nat → Nat} {x4 x5 y5 x : Int32} {Hd po : Nat → Nat} {fc qhe qbi qhv qwo w : Nat → Int32} {qts qbb qbc qbw lst lwo : Int32} (hM : Mov n K x4 x5 Hd po) (hM' : Mov n K x4 y5 Hd po) (hx : x4 = -1 → x5 = -1) (hin : ∀ m, m < n → x4 = nI m → S.testBit m = true) (hc : GCv n K fc) (hm : GMv n K w 0) (h0 : w 0 = nI n) (h2 : w 2 = nI cv) (hKB : KB n K) (hn : n ≤ 8) (hS : S < 2 ^ n) (hcv : cv ≤ 200) (l1 : -1000 ≤ x.toInt) (l2 : x.toInt ≤ 1000) (hq : Sch qbi qhv qwo) : ∃ r a b c e u v y z lw, bd4 (Q_pileUp (nI S) x4 x5 qhe qbi qhv qwo (nI n) fc) (fun qhe_1 qbi_2 qhv_3 qwo_4 => bd5 (Q_choose (nI S) x qhe_1 qbi_2 qhv_3 qwo_4 qts qbb qbc qbw (nI cv) (nI n) fc) (fun r_5 qts_6 qbb_7 qbc_8 qbw_9 => some (r_5, qhe_1, qbi_2, qhv_3, qwo_4, qts_6, qbb_7, qbc_8, qbw_9))) = some (r, a, b, c, e, u, v, y, z) ∧ Sch b c e ∧ M_findLeast (nI S) x x4 y5 w lst lwo = some (r, lw) ∧ ((∃ T, T < 2 ^ n ∧ way n S cv K Hd po x T ∧ r = nI T ∧ lw = nI (wor n K T)) ∨ r = -1) := by
  obtain ⟨r, a, b, c, e, u, v, y, z, f1, f2, f3⟩ := find_N (qhe := qhe) (qts := qts) (qbb := qbb) (qbc := qbc) (qbw := qbw) hM hx hin hc hKB hn hS hcv l1 l2 hq
  obtain ⟨ls, lw, g1, g2⟩ := least_N (lst := lst) (lwo := lwo) (a := x) hM' hKB hm h0 h2 hn hS
  refine ⟨r, a, b, c, e, u, v, y, z, lw, f1, f2, ?_⟩
  rcases f3 with ⟨T, t1, t2⟩ | ⟨t1, t2⟩ <;> rcases g2 with ⟨T', s1, s2, s3⟩ | ⟨s1, s2⟩
  · have := fst1_one t1 s1
    subst this
    rw [g1, s2, t2]
    refine ⟨rfl, Or.inl ⟨T, ?_, t1.2.1, rfl, s3⟩⟩
    apply lt_bits
    intro i hi
    cases q : T.testBit i
    · rfl
    · exact absurd (bit_lt hS (sdf_0.mp t1.2.1.1 i q)) (by omega)
  · exact absurd t1.2.1 (s1 T t1.1)
  · exact absurd s1.2.1 (t1 T' s1.1)
  · rw [g1, s2, t2]
    exact ⟨rfl, Or.inr rfl⟩
