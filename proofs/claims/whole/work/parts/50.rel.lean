/-! THE RELATION between the class's cells and the model's -/
/-- one cargo and the eighty words from o on -/
def RC (sw ca si ab un sg : Int32) (fc he st : Nat → Int32) (w : Nat → Int32) (o : Nat) : Prop :=
  ∃ (n u g b sv cv : Nat) (K : Nat → Nat → Nat) (f hh : Nat → Nat),
    n ≤ 8 ∧ u ≤ 8 ∧ g ≤ 6 ∧ b < 2 ^ n ∧ sv ≤ 99 ∧ cv ≤ 200 ∧
    si = nI n ∧ un = nI u ∧ sg = nI g ∧ ab = nI b ∧ sw = nI sv ∧ ca = nI cv ∧
    w o = nI n ∧ w (o + 1) = nI sv ∧ w (o + 2) = nI cv ∧ w (o + 3) = nI g ∧ w (o + 4) = nI u ∧ w (o + 5) = nI b ∧
    (∀ k j, k < n → j < 6 → fc (6 * k + j) = nI (K k j) ∧ w (o + (6 + 8 * j + k)) = nI (K k j)) ∧
    (∀ k, k < n → K k 0 ≤ 5 ∧ K k 1 ≤ 3 ∧ K k 2 ≤ 2 ∧ 1 ≤ K k 3 ∧ K k 3 ≤ 40 ∧ K k 4 ≤ 60 ∧ K k 5 ≤ 60) ∧
    (∀ i, i < 3 * g → st i = w (o + (54 + i))) ∧
    f u = b ∧ (∀ i, i < u → he i = nI (hh i) ∧ hh i < n ∧ w (o + (72 + i)) = nI (f i) ∧ f i = f (i + 1) + 2 ^ hh i ∧ (f (i + 1)).testBit (hh i) = false)
/-- the images -/
def Img (xik : Int32) (isw ica isi iab iun isg : Int32) (ifa ihe ist : Nat → Int32) (jsw jca jsi jab jun jsg : Int32) (jfa jhe jst : Nat → Int32) (w kp : Nat → Int32) : Prop :=
  ∃ a0 a1 : Nat, a0 ≤ 1 ∧ a1 ≤ 1 ∧ xik = nI (a0 + 2 * a1) ∧ kp 0 = nI a0 ∧ kp 1 = nI a1 ∧ (a0 = 1 → RC isw ica isi iab iun isg ifa ihe ist w 80) ∧ (a1 = 1 → RC jsw jca jsi jab jun jsg jfa jhe jst w 160)
/-- the text -/
def Txt (tby : Nat → Int32) (tln : Int32) (tx : Nat → Int32) (td : Int32) : Prop :=
  ∃ n : Nat, n ≤ 150 ∧ tln = nI n ∧ td = nI n ∧ ∀ j, j < n → ∃ v : Nat, v < 128 ∧ tby j = nI v ∧ tx j = nI v
/-- the rows of the search begin with 0 -/
def Sch (qbi qhv qwo : Nat → Int32) : Prop := ∀ h, h < 3 → qbi (9 * h) = 0 ∧ qhv (9 * h) = 0 ∧ qwo (9 * h) = 0
def Rel (xik xbc xnc xfc csw cca csi cab cun csg : Int32) (cfa che cst : Nat → Int32) (isw ica isi iab iun isg : Int32) (ifa ihe ist : Nat → Int32) (jsw jca jsi jab jun jsg : Int32) (jfa jhe jst : Nat → Int32) (tby : Nat → Int32) (tln : Int32) (qbi qhv qwo : Nat → Int32) (fab fbe : Int64) (w kp tx : Nat → Int32) (td : Int32) (rf : Nat → Int32) (fa fb : Int64) : Prop :=
  RC csw cca csi cab cun csg cfa che cst w 0 ∧
  Img xik isw ica isi iab iun isg ifa ihe ist jsw jca jsi jab jun jsg jfa jhe jst w kp ∧
  Txt tby tln tx td ∧ (fab = fa ∧ fbe = fb) ∧ (rf 0 = xbc ∧ rf 1 = xnc ∧ rf 2 = xfc) ∧ Sch qbi qhv qwo
