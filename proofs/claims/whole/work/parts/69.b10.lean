/-! PURE: the search, the class's -/
theorem Mov.inj {n : Nat} {K : Nat → Nat → Nat} {x4 x5 : Int32} {Hd po : Nat → Nat} (h : Mov n K x4 x5 Hd po) (hn : n ≤ 8) {i k : Nat} (hi : i < n) (hk : k < n) (e : po i = po k) : i = k := by
  rcases h with ⟨-, -, h3⟩ | ⟨m, g, hm, -, -, -, -, h4⟩
  · rw [h3, h3] at e; exact e
  · rw [h4, h4] at e
    by_cases q1 : i = m <;> by_cases q2 : k = m
    · omega
    · rw [if_pos q1, if_neg q2] at e; omega
    · rw [if_neg q1, if_pos q2] at e; omega
    · rw [if_neg q1, if_neg q2] at e; exact e
theorem Mov.po8 {n : Nat} {K : Nat → Nat → Nat} {x4 x5 : Int32} {Hd po : Nat → Nat} (h : Mov n K x4 x5 Hd po) (hn : n ≤ 8) {i : Nat} (hi : i < n) : po i ≤ 8 := by
  rcases h with ⟨-, -, h3⟩ | ⟨m, g, hm, -, -, -, -, h4⟩
  · rw [h3]; omega
  · rw [h4]; split <;> omega
/-- what lies in hold h from p up -/
def cut (n S : Nat) (Hd po : Nat → Nat) (h p : Nat) : Nat := mkS (fun i => S.testBit i && decide (Hd i = h) && decide (p ≤ po i)) n
theorem cut_bit {n S : Nat} {Hd po : Nat → Nat} {h p i : Nat} : (cut n S Hd po h p).testBit i = true ↔ i < n ∧ S.testBit i = true ∧ Hd i = h ∧ p ≤ po i := by
  unfold cut
  rw [mkS_bit]
  simp only [Bool.and_eq_true, decide_eq_true_eq]
  constructor
  · rintro ⟨a, ⟨b, c⟩, d⟩; exact ⟨a, b, c, d⟩
  · rintro ⟨a, b, c, d⟩; exact ⟨a, ⟨b, c⟩, d⟩
theorem bits_eq {a b : Nat} (h : ∀ i, a.testBit i = true ↔ b.testBit i = true) : a = b := by
  apply Nat.eq_of_testBit_eq
  intro i
  have := h i
  cases e1 : a.testBit i <;> cases e2 : b.testBit i
  · rfl
  · rw [e1, e2] at this; exact absurd (this.mpr rfl) (by decide)
  · rw [e1, e2] at this; exact absurd (this.mp rfl) (by decide)
  · rfl
theorem cut_lt {n S : Nat} {Hd po : Nat → Nat} {h p : Nat} : cut n S Hd po h p < 2 ^ n := mkS_lt _ _
theorem sm_or {f : Nat → Nat} {a b : Nat} : ∀ {n : Nat}, (∀ i, i < n → ¬ (a.testBit i = true ∧ b.testBit i = true)) → sm (inS (a ||| b) f) n = sm (inS a f) n + sm (inS b f) n
  | 0, _ => rfl
  | n + 1, h => by
    rw [sm, sm, sm, sm_or (fun i hi => h i (by omega))]
    have := h n (by omega)
    have e : inS (a ||| b) f n = inS a f n + inS b f n := by
      unfold inS
      rw [Nat.testBit_or]
      cases e1 : a.testBit n <;> cases e2 : b.testBit n
      · rfl
      · simp
      · simp
      · exact absurd ⟨e1, e2⟩ this
    rw [e]
    omega
theorem sm_one {f : Nat → Nat} {g : Nat} : ∀ {n : Nat}, sm (inS (2 ^ g) f) n = if g < n then f g else 0
  | 0 => rfl
  | n + 1 => by
    rw [sm, sm_one]
    unfold inS
    rw [Nat.testBit_two_pow]
    by_cases e : g = n
    · subst e
      rw [if_neg (by omega), if_pos (by simp), if_pos (by omega), Nat.zero_add]
    · rw [if_neg (show ¬ decide (g = n) = true by simp [e])]
      by_cases l : g < n
      · rw [if_pos l, if_pos (by omega)]; rfl
      · rw [if_neg l, if_neg (by omega)]
theorem sm_bit {f : Nat → Nat} {a g n : Nat} (hg : g < n) (h : a.testBit g = false) : sm (inS (a ||| 2 ^ g) f) n = sm (inS a f) n + f g := by
  rw [sm_or, sm_one, if_pos hg]
  intro i hi q
  rw [Nat.testBit_two_pow] at q
  have e : g = i := by simpa using q.2
  subst e
  rw [h] at q
  exact Bool.noConfusion q.1
/-- the rows of hold h, laid down to p -/
def pil (n S : Nat) (K : Nat → Nat → Nat) (Hd po : Nat → Nat) (h p : Nat) (qhe qbi qhv qwo : Nat → Int32) : Prop :=
  qhe h = nI (pop (cut n S Hd po h p)) ∧ (∀ q, p ≤ q → q ≤ 9 → qbi (9 * h + pop (cut n S Hd po h q)) = nI (cut n S Hd po h q) ∧ qhv (9 * h + pop (cut n S Hd po h q)) = nI (hvy n K (cut n S Hd po h q)) ∧ qwo (9 * h + pop (cut n S Hd po h q)) = nI (wor n K (cut n S Hd po h q))) ∧ (∀ j, j ≤ pop (cut n S Hd po h p) → ∃ q, p ≤ q ∧ q ≤ 9 ∧ pop (cut n S Hd po h q) = j)
def PH (n S : Nat) (K : Nat → Nat → Nat) (Hd po : Nat → Nat) (h p : Nat) (qhe qbi qhv qwo : Nat → Int32) : Prop := (∀ h', h' < h → pil n S K Hd po h' 0 qhe qbi qhv qwo) ∧ Sch qbi qhv qwo ∧ pil n S K Hd po h p qhe qbi qhv qwo
theorem cut_skip {n S : Nat} {Hd po : Nat → Nat} {h p : Nat} (hno : ∀ j, j < n → S.testBit j = true → Hd j = h → po j ≠ p) : cut n S Hd po h p = cut n S Hd po h (p + 1) := by
  apply bits_eq
  intro i
  rw [cut_bit, cut_bit]
  constructor
  · rintro ⟨a, b, c, d⟩
    have := hno i a b c
    exact ⟨a, b, c, by omega⟩
  · rintro ⟨a, b, c, d⟩
    exact ⟨a, b, c, by omega⟩
theorem pil_skip {n S : Nat} {K : Nat → Nat → Nat} {Hd po : Nat → Nat} {h p : Nat} {qhe qbi qhv qwo : Nat → Int32} (hp : p ≤ 8) (hno : ∀ j, j < n → S.testBit j = true → Hd j = h → po j ≠ p) (H : PH n S K Hd po h (p + 1) qhe qbi qhv qwo) : PH n S K Hd po h p qhe qbi qhv qwo := by
  obtain ⟨H1, H2, H3, H4, H5⟩ := H
  have e := cut_skip hno
  refine ⟨H1, H2, ?_, ?_, ?_⟩
  · rw [e]; exact H3
  · intro q hq hq9
    by_cases r : q = p
    · subst r
      rw [e]
      exact H4 (q + 1) (by omega) (by omega)
    · exact H4 q (by omega) hq9
  · intro j hj
    rw [e] at hj
    obtain ⟨q, q1, q2, q3⟩ := H5 j hj
    exact ⟨q, by omega, q2, q3⟩
theorem cut_one {n S : Nat} {Hd po : Nat → Nat} {h p g : Nat} (hinj : ∀ i k, i < n → k < n → po i = po k → i = k) (hg : g < n) (hS : S.testBit g = true) (hH : Hd g = h) (hp : po g = p) : cut n S Hd po h p = cut n S Hd po h (p + 1) ||| 2 ^ g ∧ (cut n S Hd po h (p + 1)).testBit g = false := by
  constructor
  · apply bits_eq
    intro i
    rw [Nat.testBit_or, Bool.or_eq_true, cut_bit, cut_bit, Nat.testBit_two_pow, decide_eq_true_eq]
    constructor
    · rintro ⟨a, b, c, d⟩
      by_cases r : po i = p
      · exact Or.inr (hinj g i hg a (by omega))
      · exact Or.inl ⟨a, b, c, by omega⟩
    · rintro (⟨a, b, c, d⟩ | rfl)
      · exact ⟨a, b, c, by omega⟩
      · exact ⟨hg, hS, hH, by omega⟩
  · cases e : (cut n S Hd po h (p + 1)).testBit g
    · rfl
    · have := (cut_bit.mp e).2.2.2
      omega
theorem lay_N {n g h e : Nat} {K : Nat → Nat → Nat} {fc qhe qbi qhv qwo : Nat → Int32} (hc : GCv n K fc) (hn : n ≤ 8) (hg : g < n) (hh : h ≤ 2) (he : e ≤ 7) (hq : qhe h = nI e) : Q_lay (nI g) (nI h) qhe qbi qhv qwo (nI n) fc = some (upd qhe h (nI (e + 1)), upd qbi (9 * h + e + 1) (qbi (9 * h + e) ||| nI (2 ^ g)), upd qhv (9 * h + e + 1) (qhv (9 * h + e) + nI (K g 3)), upd qwo (9 * h + e + 1) (qwo (9 * h + e) + nI (K g 4))) := by
  have f3 : C_fact (nI g) 3 (nI n) fc = some (nI (K g 3)) := fact_N (j := 3) hc hn hg (by omega)
  have f4 : C_fact (nI g) 4 (nI n) fc = some (nI (K g 4)) := fact_N (j := 4) hc hn hg (by omega)
  unfold Q_lay
  rw [within_w, bd1_s, ite_10, if_pos (show (0 : Int32) ≤ nI h ∧ nI h ≤ 2 from rng_in (m := 2) hh (by omega)), inb_t (i := h) (by omega) (by omega), nI_clamp (n := h) (by omega), hq, within_w, bd1_s, ite_10, if_pos (show (0 : Int32) ≤ nI e ∧ nI e ≤ 7 from rng_in (m := 7) he (by omega)), f3, f4, shl_N (by omega), show nI h * 9 + nI e = nI (9 * h + e) by rw [show (9 : Int32) = nI 9 from rfl, pk_mul, nI_add, Nat.mul_comm]]
  simp only [bnd, bd1]
  rw [nI_1, nI_1, inb_t (i := 9 * h + e) (by omega) (by omega), inb_t (i := 9 * h + e + 1) (by omega) (by omega), nI_clamp (n := 9 * h + e) (by omega), nI_clamp (n := 9 * h + e + 1) (by omega)]
  rfl
theorem pil_cong {n S : Nat} {K : Nat → Nat → Nat} {Hd po : Nat → Nat} {h p : Nat} {qhe qbi qhv qwo qhe' qbi' qhv' qwo' : Nat → Int32} (hn : n ≤ 8) (H : pil n S K Hd po h p qhe qbi qhv qwo) (e0 : qhe' h = qhe h) (e1 : ∀ j, j ≤ 8 → qbi' (9 * h + j) = qbi (9 * h + j)) (e2 : ∀ j, j ≤ 8 → qhv' (9 * h + j) = qhv (9 * h + j)) (e3 : ∀ j, j ≤ 8 → qwo' (9 * h + j) = qwo (9 * h + j)) : pil n S K Hd po h p qhe' qbi' qhv' qwo' := by
  obtain ⟨H1, H2, H3⟩ := H
  refine ⟨by rw [e0]; exact H1, fun q hq hq9 => ?_, H3⟩
  have := pop_le _ (lt256 (cut_lt (n := n) (S := S) (Hd := Hd) (po := po) (h := h) (p := q)) hn)
  rw [e1 _ this, e2 _ this, e3 _ this]
  exact H2 q hq hq9
theorem pil_lay {n S : Nat} {K : Nat → Nat → Nat} {Hd po : Nat → Nat} {h p g : Nat} {fc qhe qbi qhv qwo : Nat → Int32} (hc : GCv n K fc) (hn : n ≤ 8) (hh : h ≤ 2) (hp : p ≤ 8) (hinj : ∀ i k, i < n → k < n → po i = po k → i = k) (hg : g < n) (hS : S.testBit g = true) (hH : Hd g = h) (hpg : po g = p) (H : PH n S K Hd po h (p + 1) qhe qbi qhv qwo) : ∃ qhe' qbi' qhv' qwo', Q_lay (nI g) (nI h) qhe qbi qhv qwo (nI n) fc = some (qhe', qbi', qhv', qwo') ∧ PH n S K Hd po h p qhe' qbi' qhv' qwo' := by
  obtain ⟨H1, H2, H3, H4, H5⟩ := H
  obtain ⟨c1, c2⟩ := cut_one hinj hg hS hH hpg
  have hl := lt256 (cut_lt (n := n) (S := S) (Hd := Hd) (po := po) (h := h) (p := p + 1)) hn
  have hl2 := lt256 (cut_lt (n := n) (S := S) (Hd := Hd) (po := po) (h := h) (p := p)) hn
  have pe : pop (cut n S Hd po h p) = pop (cut n S Hd po h (p + 1)) + 1 := by
    rw [c1, or_bit c2]
    exact pop_add _ hl g (by omega) c2
  have p8 := pop_le _ hl2
  obtain ⟨r1, r2, r3⟩ := H4 (p + 1) (by omega) (by omega)
  have hL := lay_N (qbi := qbi) (qhv := qhv) (qwo := qwo) (g := g) hc hn hg hh (show pop (cut n S Hd po h (p + 1)) ≤ 7 by omega) H3
  rw [r1, r2, r3, or_N, nI_add, nI_add] at hL
  rw [← c1, show hvy n K (cut n S Hd po h (p + 1)) + K g 3 = hvy n K (cut n S Hd po h p) by unfold hvy; rw [c1, sm_bit hg c2], show wor n K (cut n S Hd po h (p + 1)) + K g 4 = wor n K (cut n S Hd po h p) by unfold wor; rw [c1, sm_bit hg c2], ← pe, show 9 * h + pop (cut n S Hd po h (p + 1)) + 1 = 9 * h + pop (cut n S Hd po h p) by omega] at hL
  refine ⟨_, _, _, _, hL, ?_, ?_, ?_, ?_, ?_⟩
  · intro h' hh'
    refine pil_cong hn (H1 h' hh') (pk_un (by omega)) (fun j hj => pk_un (by omega)) (fun j hj => pk_un (by omega)) (fun j hj => pk_un (by omega))
  · intro h' hh'
    obtain ⟨s1, s2, s3⟩ := H2 h' hh'
    rw [pk_un (by omega), pk_un (by omega), pk_un (by omega)]
    exact ⟨s1, s2, s3⟩
  · exact pk_us
  · intro q hq hq9
    by_cases r : q = p
    · subst r
      rw [pk_us, pk_us, pk_us]
      exact ⟨rfl, rfl, rfl⟩
    · have hle : pop (cut n S Hd po h q) ≤ pop (cut n S Hd po h (p + 1)) := by
        by_cases r2 : pop (cut n S Hd po h q) ≤ pop (cut n S Hd po h (p + 1))
        · exact r2
        · exfalso
          have hsub : ∀ i, (cut n S Hd po h q).testBit i = true → (cut n S Hd po h (p + 1)).testBit i = true := by
            intro i hi
            obtain ⟨t1, t2, t3, t4⟩ := cut_bit.mp hi
            exact cut_bit.mpr ⟨t1, t2, t3, by omega⟩
          have hq' := lt256 (cut_lt (n := n) (S := S) (Hd := Hd) (po := po) (h := h) (p := q)) hn
          have hmono : pop (cut n S Hd po h q) ≤ pop (cut n S Hd po h (p + 1)) := by
            unfold pop
            have : cut n S Hd po h (p + 1) = cut n S Hd po h q ||| sdf (cut n S Hd po h (p + 1)) (cut n S Hd po h q) := by
              apply bits_eq
              intro i
              rw [Nat.testBit_or, sdf_bit]
              have := hsub i
              cases e1 : (cut n S Hd po h q).testBit i <;> cases e2 : (cut n S Hd po h (p + 1)).testBit i <;> simp
              rw [e1, e2] at this
              exact absurd (this rfl) (by decide)
            rw [this, sm_or]
            · omega
            · intro i hi q2
              rw [sdf_bit, q2.1] at q2
              simp at q2
          exact r2 hmono
      rw [pk_un (by omega), pk_un (by omega), pk_un (by omega)]
      exact H4 q (by omega) hq9
  · intro j hj
    by_cases r : j = pop (cut n S Hd po h p)
    · exact ⟨p, by omega, by omega, r.symm⟩
    · obtain ⟨q, q1, q2, q3⟩ := H5 j (by omega)
      exact ⟨q, by omega, q2, q3⟩
theorem pile_L40 {n S : Nat} {K : Nat → Nat → Nat} {x4 x5 : Int32} {Hd po : Nat → Nat} {h : Nat} {fc : Nat → Int32} {rc : Int32 → Int32 → Int32 → Int32 → (Nat → Int32) → (Nat → Int32) → (Nat → Int32) → (Nat → Int32) → Int32 → (Nat → Int32) → Option ((Nat → Int32) × (Nat → Int32) × (Nat → Int32) × (Nat → Int32))} (hM : Mov n K x4 x5 Hd po) (hc : GCv n K fc) (hKB : KB n K) (hn : n ≤ 8) (hS : S < 2 ^ n) (hh : h ≤ 2) : ∀ p fuel qhe qbi qhv qwo, p ≤ n → p < fuel → PH n S K Hd po h p qhe qbi qhv qwo → ∃ qhe' qbi' qhv' qwo', Q_pileUp_L40 rc fuel (nI S) x4 x5 (nI h) (nI p - 1) qhe qbi qhv qwo (nI n) fc = rc (nI S) x4 x5 (nI (h + 1)) qhe' qbi' qhv' qwo' (nI n) fc ∧ PH n S K Hd po h 0 qhe' qbi' qhv' qwo' := by
  have hS8 := lt256 hS hn
  intro p
  induction p with
  | zero =>
    intro fuel qhe qbi qhv qwo hp hf H
    obtain ⟨g, rfl⟩ := fuel1 hf
    rw [Q_pileUp_L40, Q_pileUp_40, if_pos (show nI 0 - 1 < 0 by decide)]
    simp only [bnd]
    rw [nI_1]
    exact ⟨_, _, _, _, rfl, H⟩
  | succ p ih =>
    intro fuel qhe qbi qhv qwo hp hf H
    obtain ⟨g, rfl⟩ := fuel1 hf
    have hh2 := fun a b c d => ih g a b c d (by omega) (by omega)
    have f2 : C_fact (nI p) 2 (nI n) fc = some (nI (K p 2)) := fact_N (j := 2) hc hn (by omega) (by omega)
    have bb := (hKB p (by omega)).2.2.1
    rw [Q_pileUp_L40, Q_pileUp_40, show nI (p + 1) - 1 = nI p from pk_sub (a := p + 1) (b := 1) (by omega), if_neg (nI_pos (by omega)), isIn_N (by omega) (by omega), bd1_s, ite_10, f2, bd1_s]
    simp only [bnd]
    rw [show nI p + -1 = nI p - 1 from (Int32.sub_eq_add_neg ..).symm]
    by_cases c1 : nI p = x4
    · rw [if_pos c1]
      refine hh2 _ _ _ _ (pil_skip (by omega) (fun j hj hSj hHj hpj => ?_) H)
      rcases hM with ⟨rfl, -, -⟩ | ⟨m, g2, hm, hg2, rfl, -, -, h4⟩
      · exact nI_m1 (by omega) c1
      · have e : p = m := (nI_eq (by omega) (by omega)).mp c1
        rw [h4] at hpj
        by_cases q : j = m
        · rw [if_pos q] at hpj; omega
        · rw [if_neg q] at hpj; omega
    rw [if_neg c1]
    have hpo : po p = p ∧ Hd p = K p 2 := by
      rcases hM with ⟨-, h2, h3⟩ | ⟨m, g2, hm, hg2, rfl, -, h3, h4⟩
      · exact ⟨h3 p, h2 p⟩
      · have q : ¬ p = m := fun e => c1 (by rw [e])
        rw [h3, h4, if_neg q, if_neg q]
        exact ⟨rfl, rfl⟩
    have uniq : ∀ j, j < n → po j = p → j = p := fun j hj e => hM.inj hn hj (by omega) (by rw [e, hpo.1])
    by_cases c2 : S.testBit p = true
    case neg =>
      rw [if_neg c2]
      refine hh2 _ _ _ _ (pil_skip (by omega) (fun j hj hSj hHj hpj => ?_) H)
      have := uniq j hj hpj
      subst this
      exact c2 hSj
    rw [if_pos c2]
    by_cases c3 : K p 2 = h
    · rw [if_pos (by rw [c3])]
      obtain ⟨a, b, c, d, e1, e2⟩ := pil_lay (p := p) (g := p) hc hn hh (by omega) (fun i k hi hk => hM.inj hn hi hk) (by omega) c2 (by rw [hpo.2, c3]) hpo.1 H
      rw [e1]
      exact hh2 a b c d e2
    · rw [if_neg (fun q => c3 ((nI_eq (by omega) (by omega)).mp q))]
      refine hh2 _ _ _ _ (pil_skip (by omega) (fun j hj hSj hHj hpj => ?_) H)
      have := uniq j hj hpj
      subst this
      exact c3 (by rw [← hpo.2, hHj])
theorem cut_9 {n S : Nat} {K : Nat → Nat → Nat} {x4 x5 : Int32} {Hd po : Nat → Nat} (hM : Mov n K x4 x5 Hd po) (hn : n ≤ 8) (h : Nat) : cut n S Hd po h 9 = 0 := by
  apply bits_eq
  intro i
  rw [cut_bit, Nat.zero_testBit]
  constructor
  · rintro ⟨a, b, c, d⟩
    have := hM.po8 hn a
    omega
  · intro q; exact absurd q (by decide)
theorem sm_0 (f : Nat → Nat) : ∀ n, sm (inS 0 f) n = 0
  | 0 => rfl
  | n + 1 => by
    rw [sm, sm_0]
    unfold inS
    rw [Nat.zero_testBit]
    rfl
theorem pile_L3 {n S : Nat} {K : Nat → Nat → Nat} {x4 x5 : Int32} {Hd po : Nat → Nat} {fc : Nat → Int32} (hM : Mov n K x4 x5 Hd po) (hx : x4 = -1 → x5 = -1) (hin : ∀ m, m < n → x4 = nI m → S.testBit m = true) (hc : GCv n K fc) (hKB : KB n K) (hn : n ≤ 8) (hS : S < 2 ^ n) : ∀ d h fuel qhe qbi qhv qwo, h + d = 3 → d < fuel → (∀ h', h' < h → pil n S K Hd po h' 0 qhe qbi qhv qwo) → Sch qbi qhv qwo → ∃ qhe' qbi' qhv' qwo', Q_pileUp_L3 fuel (nI S) x4 x5 (nI h) qhe qbi qhv qwo (nI n) fc = some (qhe', qbi', qhv', qwo') ∧ (∀ h', h' < 3 → pil n S K Hd po h' 0 qhe' qbi' qhv' qwo') ∧ Sch qbi' qhv' qwo' := by
  intro d
  induction d with
  | zero =>
    intro h fuel qhe qbi qhv qwo hh hf H1 H2
    obtain ⟨g, rfl⟩ := fuel1 hf
    have hh : h = 3 := by omega
    subst hh
    rw [Q_pileUp_L3, Q_pileUp_3, if_pos (by decide)]
    exact ⟨_, _, _, _, rfl, H1, H2⟩
  | succ d ih =>
    intro h fuel qhe qbi qhv qwo hh hf H1 H2
    obtain ⟨g, rfl⟩ := fuel1 hf
    have hh2 : h ≤ 2 := by omega
    rw [Q_pileUp_L3, Q_pileUp_3, if_neg (show ¬ (3 : Int32) ≤ nI h from nI_ge (a := h) (b := 3) (by omega) (by omega)), inb_t (by omega) (by omega), nI_clamp (by omega)]
    simp only [ck, bnd]
    have P9 : PH n S K Hd po h 9 (upd qhe h 0) qbi qhv qwo := by
      refine ⟨fun h' hh' => pil_cong hn (H1 h' hh') (pk_un (by omega)) (fun j hj => rfl) (fun j hj => rfl) (fun j hj => rfl), H2, ?_, ?_, ?_⟩
      · rw [cut_9 hM hn]; exact pk_us
      · intro q hq hq9
        have : q = 9 := by omega
        subst this
        rw [cut_9 hM hn]
        obtain ⟨s1, s2, s3⟩ := H2 h (by omega)
        refine ⟨s1, ?_, ?_⟩
        · rw [show hvy n K 0 = 0 from sm_0 _ n]; exact s2
        · rw [show wor n K 0 = 0 from sm_0 _ n]; exact s3
      · intro j hj
        rw [cut_9 hM hn] at hj
        exact ⟨9, by omega, by omega, by rw [cut_9 hM hn]; have : pop 0 = 0 := rfl; omega⟩
    have down : ∀ p qhe qbi qhv qwo, n ≤ p → p ≤ 8 → PH n S K Hd po h p qhe qbi qhv qwo → PH n S K Hd po h n qhe qbi qhv qwo := by
      intro p
      induction p with
      | zero =>
        intro a b c e hnp hp H
        have : n = 0 := by omega
        rw [this] at H ⊢
        exact H
      | succ p ihp =>
        intro a b c e hnp hp H
        by_cases q : n = p + 1
        · rw [q]; rw [← q] at H ⊢; exact H
        · refine ihp a b c e (by omega) (by omega) (pil_skip (by omega) (fun j hj hSj hHj hpj => ?_) H)
          rcases hM with ⟨-, h2, h3⟩ | ⟨m, g2, hm, hg2, rfl, -, h3, h4⟩
          · rw [h3] at hpj; omega
          · rw [h4] at hpj
            by_cases q2 : j = m
            · rw [if_pos q2] at hpj; omega
            · rw [if_neg q2] at hpj; omega
    have fin : ∀ qhe qbi qhv qwo, PH n S K Hd po h 8 qhe qbi qhv qwo → ∃ qhe' qbi' qhv' qwo', Q_pileUp_32 (Q_pileUp_L3 g) (nI S) x4 x5 (nI h) qhe qbi qhv qwo (nI n) fc = some (qhe', qbi', qhv', qwo') ∧ (∀ h', h' < 3 → pil n S K Hd po h' 0 qhe' qbi' qhv' qwo') ∧ Sch qbi' qhv' qwo' := by
      intro a b c e H
      unfold Q_pileUp_32
      simp only [bnd]
      obtain ⟨a', b', c', e', q1, q2, q3, q4⟩ := pile_L40 (rc := Q_pileUp_L3 g) hM hc hKB hn hS hh2 n FU a b c e (by omega) (by unfold FU; omega) (down 8 a b c e hn (by omega) H)
      rw [q1]
      refine ih (h + 1) g a' b' c' e' (by omega) (by omega) (fun h' hh' => ?_) q3
      by_cases r : h' = h
      · rw [r]; exact q4
      · exact q2 h' (by omega)
    have skip8 : (∀ j, j < n → S.testBit j = true → Hd j = h → po j ≠ 8) → PH n S K Hd po h 8 (upd qhe h 0) qbi qhv qwo := fun q => pil_skip (by omega) q P9
    rcases id hM with ⟨rfl, h2, h3⟩ | ⟨m, g2, hm, hg2, rfl, rfl, h3, h4⟩
    · rw [hx rfl, if_neg (nI_m1 (by omega))]
      rw [hx rfl] at fin
      exact fin _ _ _ _ (skip8 (fun j hj _ _ q => by rw [h3] at q; omega))
    · by_cases c : h = g2
      · subst c
        rw [if_pos rfl]
        obtain ⟨a, b, c, e, e1, e2⟩ := pil_lay (p := 8) (g := m) hc hn hh2 (by omega) (fun i k hi hk => hM.inj hn hi hk) hm (hin m hm rfl) (by rw [h3, if_pos rfl]) (by rw [h4, if_pos rfl]) P9
        rw [e1]
        exact fin a b c e e2
      · rw [if_neg (fun q => c ((nI_eq (by omega) (by omega)).mp q))]
        refine fin _ _ _ _ (skip8 (fun j hj _ hH q => ?_))
        rw [h3] at hH
        rw [h4] at q
        by_cases r : j = m
        · rw [if_pos r] at hH; omega
        · rw [if_neg r] at q; omega
