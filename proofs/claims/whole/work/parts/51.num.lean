/-! PURE: numbers and bits -/
theorem wide_lt (a b : Int32) : a.toInt64 < b.toInt64 ↔ a < b := by
  rw [Int64.lt_iff_toInt_lt, Int32.lt_iff_toInt_lt, Int32.toInt_toInt64, Int32.toInt_toInt64]
theorem cmp_lt (x y : Int64) : lg_cmp x y < 0 ↔ x < y := by
  unfold lg_cmp
  by_cases h : y < x
  · simp [h]; exact Int64.le_of_lt h
  · by_cases h2 : x = y
    · simp [h2]
    · simp [h, h2]
      have h3 : x ≤ y := Int64.not_lt.mp h
      exact Int64.lt_of_le_of_ne h3 h2
theorem cmp_gt (x y : Int64) : 0 < lg_cmp x y ↔ y < x := by
  unfold lg_cmp
  by_cases h : y < x
  · simp [h]
  · by_cases h2 : x = y
    · simp [h2]
    · simp [h, h2]
theorem in_w (a b c : Int32) : M_in a.toInt64 b.toInt64 c.toInt64 = some (if b ≤ a ∧ a ≤ c then 1 else 0) := by
  unfold M_in
  simp only [cmp_lt, cmp_gt, wide_lt]
  by_cases h1 : a < b
  · have : ¬ b ≤ a := Int32.not_le.mpr h1
    simp [h1, this]
  · have h2 : b ≤ a := Int32.not_lt.mp h1
    by_cases h3 : c < a
    · have : ¬ a ≤ c := Int32.not_le.mpr h3
      simp [h1, h3, this]
    · have : a ≤ c := Int32.not_lt.mp h3
      simp [h1, h2, h3, this]
theorem within_w (a b c : Int32) : X_within a b c = some (if b ≤ a ∧ a ≤ c then 1 else 0) := by
  unfold X_within
  by_cases h1 : a < b
  · have : ¬ b ≤ a := Int32.not_le.mpr h1
    simp [h1, this]
  · have h2 : b ≤ a := Int32.not_lt.mp h1
    by_cases h3 : c < a
    · have : ¬ a ≤ c := Int32.not_le.mpr h3
      simp [h1, h3, this]
    · have : a ≤ c := Int32.not_lt.mp h3
      simp [h1, h2, h3, this]
theorem s_l : ∀ n, n < 32 → ((nI n &&& 31).toBitVec.smod 32).toNat = n := by decide +kernel
theorem bit_iff {S k : Nat} (hS : S < 2 ^ 31) (hk : k < 31) : ((nI S >>> (nI k &&& 31)) &&& 1) = 1 ↔ S.testBit k = true := by
  rw [pk_shrN hS _ k (s_l k (by omega)), pk_andN (n := S / 2 ^ k) (by have := Nat.div_le_self S (2 ^ k); omega) 1 rfl]
  rw [show (1 : Int32) = nI 1 from rfl, nI_eq (by omega) (by omega), Nat.testBit, Nat.shiftRight_eq_div_pow]
  simp
theorem has_N {S k : Nat} (hS : S < 2 ^ 31) (hk : k < 31) : M_has (nI S) (nI k) = some (if S.testBit k then 1 else 0) := by
  unfold M_has
  by_cases h : S.testBit k = true
  · rw [if_pos ((bit_iff hS hk).mpr h), if_pos h]
  · rw [if_neg (fun q => h ((bit_iff hS hk).mp q)), if_neg h]
theorem isIn_N {S k : Nat} (hS : S < 2 ^ 31) (hk : k < 31) : X_isIn (nI S) (nI k) = some (if S.testBit k then 1 else 0) := has_N hS hk
theorem ite_10 {α : Type} {c : Prop} [Decidable c] {x y : α} : (if (if c then (1 : Int32) else 0) = 0 then x else y) = if c then y else x := by
  by_cases h : c <;> simp [h]
theorem bo_ite {c : Prop} [Decidable c] : bo (if c then (1 : Int32) else 0) = true := by
  by_cases h : c <;> simp [h, bo]
theorem shl_N {k : Nat} (hk : k < 31) : (1 : Int32) <<< (nI k &&& 31) = nI (2 ^ k) := by
  have := pk_shlN (n := 1) (nI k &&& 31) k (s_l k (by omega)) (by have : 2 ^ k < 2 ^ 31 := Nat.pow_lt_pow_right (by omega) hk; omega)
  rw [show (1 : Int32) = nI 1 from rfl, this, Nat.one_mul]
theorem nI_tb (n : Nat) : (nI n).toBitVec = BitVec.ofNat 32 n := rfl
theorem or_N (a b : Nat) : nI a ||| nI b = nI (a ||| b) := by
  apply Int32.toBitVec_inj.mp
  rw [Int32.toBitVec_or, nI_tb, nI_tb, nI_tb]
  apply BitVec.eq_of_getLsbD_eq
  intro i hi
  simp [BitVec.getLsbD_ofNat, hi]
theorem and_N (a b : Nat) : nI a &&& nI b = nI (a &&& b) := by
  apply Int32.toBitVec_inj.mp
  rw [Int32.toBitVec_and, nI_tb, nI_tb, nI_tb]
  apply BitVec.eq_of_getLsbD_eq
  intro i hi
  simp [BitVec.getLsbD_ofNat, hi]
/-- a without b -/
def sdf (a b : Nat) : Nat := a ^^^ (a &&& b)
theorem sdf_bit (a b i : Nat) : (sdf a b).testBit i = (a.testBit i && !b.testBit i) := by
  unfold sdf
  rw [Nat.testBit_xor, Nat.testBit_and]
  cases a.testBit i <;> cases b.testBit i <;> rfl
theorem andn_N (a b : Nat) : nI a &&& (nI b ^^^ (-1)) = nI (sdf a b) := by
  apply Int32.toBitVec_inj.mp
  rw [Int32.toBitVec_and, Int32.toBitVec_xor, nI_tb, nI_tb, nI_tb]
  apply BitVec.eq_of_getLsbD_eq
  intro i hi
  rw [BitVec.getLsbD_and, BitVec.getLsbD_xor, BitVec.getLsbD_ofNat, BitVec.getLsbD_ofNat, BitVec.getLsbD_ofNat, sdf_bit]
  have : (Int32.toBitVec (-1)).getLsbD i = true := by
    rw [show Int32.toBitVec (-1) = BitVec.allOnes 32 from rfl, BitVec.getLsbD_allOnes]
    simp [hi]
  rw [this]
  cases a.testBit i <;> cases b.testBit i <;> simp [hi]
/-- sums -/
def sm (f : Nat → Nat) : Nat → Nat
  | 0 => 0
  | n + 1 => sm f n + f n
theorem sm_cong {f g : Nat → Nat} : ∀ {n : Nat}, (∀ k, k < n → f k = g k) → sm f n = sm g n
  | 0, _ => rfl
  | n + 1, h => by rw [sm, sm, sm_cong (fun k hk => h k (by omega)), h n (by omega)]
theorem sm_le {f : Nat → Nat} {c : Nat} : ∀ {n : Nat}, (∀ k, k < n → f k ≤ c) → sm f n ≤ n * c
  | 0, _ => by simp [sm]
  | n + 1, h => by
    rw [sm, Nat.succ_mul]
    exact Nat.add_le_add (sm_le (fun k hk => h k (by omega))) (h n (by omega))
/-- what of f is in the set -/
def inS (S : Nat) (f : Nat → Nat) (k : Nat) : Nat := if S.testBit k then f k else 0
def pop (S : Nat) : Nat := sm (inS S (fun _ => 1)) 8
theorem ones_N : ∀ S, S < 256 → M_ones (nI S) = some (nI (pop S)) := by decide +kernel
theorem bitc_N : ∀ S, S < 256 → J_bitCount (nI S) = some (nI (pop S)) := by decide +kernel
