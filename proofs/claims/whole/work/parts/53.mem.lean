/-! PURE: the model's words: filling, copying -/
theorem RC.cong {sw ca si ab un sg : Int32} {fc he st w w' : Nat → Int32} {o : Nat} (h : RC sw ca si ab un sg fc he st w o) (e : ∀ i, i < 80 → w' (o + i) = w (o + i)) : RC sw ca si ab un sg fc he st w' o := by
  obtain ⟨n, u, g, b, sv, cv, K, f, hh, hn, hu, hg, hb, hsv, hcv, e1, e2, e3, e4, e5, e6, w0, w1, w2, w3, w4, w5, hK, hKB, hst, hfu, hf⟩ := h
  refine ⟨n, u, g, b, sv, cv, K, f, hh, hn, hu, hg, hb, hsv, hcv, e1, e2, e3, e4, e5, e6, ?_, ?_, ?_, ?_, ?_, ?_, ?_, hKB, ?_, hfu, ?_⟩
  · rw [← w0]; exact e 0 (by omega)
  · rw [← w1]; exact e 1 (by omega)
  · rw [← w2]; exact e 2 (by omega)
  · rw [← w3]; exact e 3 (by omega)
  · rw [← w4]; exact e 4 (by omega)
  · rw [← w5]; exact e 5 (by omega)
  · intro k j hk hj
    rw [e _ (by omega)]
    exact hK k j hk hj
  · intro i hi
    rw [e _ (by omega)]
    exact hst i hi
  · intro i hi
    rw [e _ (by omega)]
    exact hf i hi
theorem Img.cong {xik : Int32} {isw ica isi iab iun isg : Int32} {ifa ihe ist : Nat → Int32} {jsw jca jsi jab jun jsg : Int32} {jfa jhe jst w w' kp : Nat → Int32} (h : Img xik isw ica isi iab iun isg ifa ihe ist jsw jca jsi jab jun jsg jfa jhe jst w kp) (e : ∀ i, 80 ≤ i → i < 240 → w' i = w i) : Img xik isw ica isi iab iun isg ifa ihe ist jsw jca jsi jab jun jsg jfa jhe jst w' kp := by
  obtain ⟨a0, a1, h0, h1, h2, h3, h4, h5, h6⟩ := h
  exact ⟨a0, a1, h0, h1, h2, h3, h4, fun q => (h5 q).cong (fun i hi => e _ (by omega) (by omega)), fun q => (h6 q).cong (fun i hi => e _ (by omega) (by omega))⟩
/-- k noughts from o on -/
def zf (w : Nat → Int32) (o k : Nat) : Nat → Int32 := fun i => if o ≤ i ∧ i < o + k then 0 else w i
theorem zf_0 (w : Nat → Int32) (o : Nat) : zf w o 0 = w := by
  funext i
  exact if_neg (by omega)
theorem zf_s (w : Nat → Int32) (o k : Nat) : upd (zf w o k) (o + k) 0 = zf w o (k + 1) := by
  funext i
  unfold upd zf
  by_cases h : i = o + k
  · rw [if_pos h, if_pos (by omega)]
  · rw [if_neg h]
    by_cases h2 : o ≤ i ∧ i < o + k
    · rw [if_pos h2, if_pos (by omega)]
    · rw [if_neg h2, if_neg (by omega)]
theorem begins_L {o : Nat} (ho : o + 80 ≤ 320) (x c : Int32) (w : Nat → Int32) : ∀ d k fuel, k + d = 80 → d < fuel → M_begins_L3 fuel (nI o) x c (nI k) (zf w o k) = some (upd (upd (zf w o 80) (o + 1) x) (o + 2) c) := by
  intro d
  induction d with
  | zero =>
    intro k fuel hk hf
    obtain ⟨g, rfl⟩ := fuel1 hf
    have hk : k = 80 := by omega
    subst hk
    rw [M_begins_L3, M_begins_3, if_pos (by decide), show (1 : Int32) = nI 1 from rfl, show (2 : Int32) = nI 2 from rfl, nI_add, nI_add, inb_t (by omega) (by omega), inb_t (by omega) (by omega), nI_clamp (by omega), nI_clamp (by omega)]
    rfl
  | succ d ih =>
    intro k fuel hk hf
    obtain ⟨g, rfl⟩ := fuel1 hf
    have h := ih (k + 1) g (by omega) (by omega)
    rw [M_begins_L3, M_begins_3, if_neg (show ¬ (80 : Int32) ≤ nI k from nI_ge (a := k) (b := 80) (by omega) (by omega)), nI_add, inb_t (by omega) (by omega), nI_clamp (by omega), nI_1]
    simp only [ck, bnd]
    rw [zf_s]
    exact h
theorem begins_N {o : Nat} (ho : o + 80 ≤ 320) (x c : Int32) (w : Nat → Int32) : M_begins (nI o) x c w = some (upd (upd (zf w o 80) (o + 1) x) (o + 2) c) := by
  have h := begins_L ho x c w 80 0 FU (by omega) (by unfold FU; omega)
  rw [zf_0] at h
  exact h
theorem M_begins_0 : ∃ w1, M_begins 0 20 60 (fun _ => 0) = some w1 ∧ (∀ k, k ≠ 1 → k ≠ 2 → w1 k = 0) ∧ w1 1 = 20 ∧ w1 2 = 60 := by
  refine ⟨_, begins_N (o := 0) (by omega) 20 60 (fun _ => 0), fun k h1 h2 => ?_, rfl, rfl⟩
  rw [pk_un h2, pk_un h1]
  unfold zf
  split <;> rfl
/-- an empty ship -/
theorem RC_new {sw ca : Nat} {fc he st w : Nat → Int32} {o : Nat} (hs : sw ≤ 99) (hc : ca ≤ 200) (h0 : w o = 0) (h1 : w (o + 1) = nI sw) (h2 : w (o + 2) = nI ca) (h3 : w (o + 3) = 0) (h4 : w (o + 4) = 0) (h5 : w (o + 5) = 0) : RC (nI sw) (nI ca) 0 0 0 0 fc he st w o :=
  ⟨0, 0, 0, 0, sw, ca, fun _ _ => 0, fun _ => 0, fun _ => 0, by omega, by omega, by omega, by omega, hs, hc, rfl, rfl, rfl, rfl, rfl, rfl, h0, h1, h2, h3, h4, h5, fun k j hk => absurd hk (by omega), fun k hk => absurd hk (by omega), fun i hi => absurd hi (by omega), rfl, fun i hi => absurd hi (by omega)⟩
theorem rel_0 {w1 : Nat → Int32} (h : (∀ k, k ≠ 1 → k ≠ 2 → w1 k = 0) ∧ w1 1 = 20 ∧ w1 2 = 60) : Rel 0 0 0 0 20 60 0 0 0 0 (fun _ => 0) (fun _ => 0) (fun _ => 0) 20 60 0 0 0 0 (fun _ => 0) (fun _ => 0) (fun _ => 0) 20 60 0 0 0 0 (fun _ => 0) (fun _ => 0) (fun _ => 0) (fun _ => 0) 0 (fun _ => 0) (fun _ => 0) (fun _ => 0) 0 1 w1 (fun _ => 0) (fun _ => 0) 0 (fun _ => 0) 0 1 := by
  obtain ⟨h0, h1, h2⟩ := h
  refine ⟨RC_new (sw := 20) (ca := 60) (by omega) (by omega) (h0 0 (by omega) (by omega)) h1 h2 (h0 3 (by omega) (by omega)) (h0 4 (by omega) (by omega)) (h0 5 (by omega) (by omega)), ⟨0, 0, by omega, by omega, rfl, rfl, rfl, fun h => absurd h (by omega), fun h => absurd h (by omega)⟩, ⟨0, by omega, rfl, rfl, fun j hj => absurd hj (by omega)⟩, ⟨rfl, rfl⟩, ⟨rfl, rfl, rfl⟩, fun h hh => ⟨rfl, rfl, rfl⟩⟩
/-- k words from a laid to b -/
def cpf (w : Nat → Int32) (a b k : Nat) : Nat → Int32 := fun i => if b ≤ i ∧ i < b + k then w (a + (i - b)) else w i
theorem cpf_0 (w : Nat → Int32) (a b : Nat) : cpf w a b 0 = w := by
  funext i
  exact if_neg (by omega)
theorem cpf_s (w : Nat → Int32) (a b k : Nat) (hd : a + 80 ≤ b ∨ b + 80 ≤ a) (hk : k < 80) : upd (cpf w a b k) (b + k) (cpf w a b k (a + k)) = cpf w a b (k + 1) := by
  funext i
  unfold upd
  by_cases h : i = b + k
  · subst h
    rw [if_pos rfl]
    unfold cpf
    rw [if_neg (by omega), if_pos (by omega), show b + k - b = k by omega]
  · rw [if_neg h]
    unfold cpf
    by_cases h2 : b ≤ i ∧ i < b + k
    · rw [if_pos h2, if_pos (by omega)]
    · rw [if_neg h2, if_neg (by omega)]
theorem copy_L {a b : Nat} (ha : a + 80 ≤ 320) (hb : b + 80 ≤ 320) (hd : a + 80 ≤ b ∨ b + 80 ≤ a) (w : Nat → Int32) : ∀ d k fuel, k + d = 80 → d < fuel → M_copy_L2 fuel (nI a) (nI b) (nI k) (cpf w a b k) = some (cpf w a b 80) := by
  intro d
  induction d with
  | zero =>
    intro k fuel hk hf
    obtain ⟨g, rfl⟩ := fuel1 hf
    have hk : k = 80 := by omega
    subst hk
    rw [M_copy_L2, M_copy_2, if_pos (by decide)]
  | succ d ih =>
    intro k fuel hk hf
    obtain ⟨g, rfl⟩ := fuel1 hf
    have h := ih (k + 1) g (by omega) (by omega)
    rw [M_copy_L2, M_copy_2, if_neg (show ¬ (80 : Int32) ≤ nI k from nI_ge (a := k) (b := 80) (by omega) (by omega)), nI_add, nI_add, inb_t (by omega) (by omega), inb_t (by omega) (by omega), nI_clamp (by omega), nI_clamp (by omega), nI_1]
    simp only [ck, bnd]
    rw [cpf_s w a b k hd (by omega)]
    exact h
theorem copy_N {a b : Nat} (ha : a + 80 ≤ 320) (hb : b + 80 ≤ 320) (hd : a + 80 ≤ b ∨ b + 80 ≤ a) (w : Nat → Int32) : M_copy (nI a) (nI b) w = some (cpf w a b 80) := by
  have h := copy_L ha hb hd w 80 0 FU (by omega) (by unfold FU; omega)
  rw [cpf_0] at h
  exact h
/-- what lies at o lies at o' -/
theorem RC.moved {sw ca si ab un sg : Int32} {fc he st w w' : Nat → Int32} {o o' : Nat} (h : RC sw ca si ab un sg fc he st w o) (e : ∀ i, i < 80 → w' (o' + i) = w (o + i)) : RC sw ca si ab un sg fc he st w' o' := by
  obtain ⟨n, u, g, b, sv, cv, K, f, hh, hn, hu, hg, hb, hsv, hcv, e1, e2, e3, e4, e5, e6, w0, w1, w2, w3, w4, w5, hK, hKB, hst, hfu, hf⟩ := h
  refine ⟨n, u, g, b, sv, cv, K, f, hh, hn, hu, hg, hb, hsv, hcv, e1, e2, e3, e4, e5, e6, ?_, ?_, ?_, ?_, ?_, ?_, ?_, hKB, ?_, hfu, ?_⟩
  · rw [← w0]; exact e 0 (by omega)
  · rw [← w1]; exact e 1 (by omega)
  · rw [← w2]; exact e 2 (by omega)
  · rw [← w3]; exact e 3 (by omega)
  · rw [← w4]; exact e 4 (by omega)
  · rw [← w5]; exact e 5 (by omega)
  · intro k j hk hj
    rw [e _ (by omega)]
    exact hK k j hk hj
  · intro i hi
    rw [e _ (by omega)]
    exact hst i hi
  · intro i hi
    rw [e _ (by omega)]
    exact hf i hi
/-- rows of the class are the same as far as they are read -/
theorem RC.rows {sw ca si ab un sg : Int32} {fc he st fc' he' st' w : Nat → Int32} {o : Nat} (h : RC sw ca si ab un sg fc he st w o) (e1 : ∀ i, i < 48 → fc' i = fc i) (e2 : ∀ i, i < 8 → he' i = he i) (e3 : ∀ i, i < 18 → st' i = st i) : RC sw ca si ab un sg fc' he' st' w o := by
  obtain ⟨n, u, g, b, sv, cv, K, f, hh, hn, hu, hg, hb, hsv, hcv, q1, q2, q3, q4, q5, q6, w0, w1, w2, w3, w4, w5, hK, hKB, hst, hfu, hf⟩ := h
  refine ⟨n, u, g, b, sv, cv, K, f, hh, hn, hu, hg, hb, hsv, hcv, q1, q2, q3, q4, q5, q6, w0, w1, w2, w3, w4, w5, ?_, hKB, ?_, hfu, ?_⟩
  · intro k j hk hj
    rw [e1 _ (by omega)]
    exact hK k j hk hj
  · intro i hi
    rw [e3 _ (by omega)]
    exact hst i hi
  · intro i hi
    rw [e2 _ (by omega)]
    exact hf i hi
