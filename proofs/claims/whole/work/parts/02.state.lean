/-! THE STATE. Arrays of an object by the number of their field; loops by a body and a number of turns. -/
abbrev Sg : Type := Nat → Nat → Int32
def up2 (g : Sg) (k i : Nat) (x : Int32) : Sg := fun a => cond (Nat.beq a k) (upd (g k) i x) (g a)
def Lp1 {A1 : Type} (F : (A1 → Prop) → A1 → Prop) : Nat → A1 → Prop
  | 0, _ => False
  | n + 1, a1 => F (Lp1 F n) a1
def Lp2 {A1 A2 : Type} (F : (A1 → A2 → Prop) → A1 → A2 → Prop) : Nat → A1 → A2 → Prop
  | 0, _, _ => False
  | n + 1, a1, a2 => F (Lp2 F n) a1 a2
def Lp3 {A1 A2 A3 : Type} (F : (A1 → A2 → A3 → Prop) → A1 → A2 → A3 → Prop) : Nat → A1 → A2 → A3 → Prop
  | 0, _, _, _ => False
  | n + 1, a1, a2, a3 => F (Lp3 F n) a1 a2 a3
def Lp4 {A1 A2 A3 A4 : Type} (F : (A1 → A2 → A3 → A4 → Prop) → A1 → A2 → A3 → A4 → Prop) : Nat → A1 → A2 → A3 → A4 → Prop
  | 0, _, _, _, _ => False
  | n + 1, a1, a2, a3, a4 => F (Lp4 F n) a1 a2 a3 a4
def Lp5 {A1 A2 A3 A4 A5 : Type} (F : (A1 → A2 → A3 → A4 → A5 → Prop) → A1 → A2 → A3 → A4 → A5 → Prop) : Nat → A1 → A2 → A3 → A4 → A5 → Prop
  | 0, _, _, _, _, _ => False
  | n + 1, a1, a2, a3, a4, a5 => F (Lp5 F n) a1 a2 a3 a4 a5
def isB (v : Int32) : Prop := v = 0 ∨ v = 1
theorem isB_nar {v : Int32} (h : isB v) : narrow .boolean (.int v) = .int v := by rcases h with rfl | rfl <;> rfl
def ush (x y : Int32) : Int32 := (x.toUInt32 >>> (y.toUInt32 &&& Int32.toUInt32 31)).toInt32
theorem sw_out {x : Int32} {lo : Int} {n : Nat} (h : ∀ k : Nat, k < n → ¬ x = Int32.ofInt (lo + k)) : x.toInt < lo ∨ lo + n - 1 < x.toInt := by
  rcases Int.lt_or_le x.toInt lo with q | q
  · exact Or.inl q
  rcases Int.lt_or_le (lo + n - 1) x.toInt with r | r
  · exact Or.inr r
  · refine absurd ?_ (h (x.toInt - lo).toNat (by omega))
    have e : lo + ((x.toInt - lo).toNat : Int) = x.toInt := by omega
    rw [e]
    exact (Int32.ofInt_toInt x).symm
abbrev XL (h : Nat) (ad : Nat → Nat) (ca : Nat → ClassId) (tc cl : Int32) (tr : Int64) (g : Sg) : va_W :=
  [(h, .inr (0, [.int tc, .int cl, .long tr, .ref (ad 3), .ref (ad 4), .ref (ad 5), .ref (ad 6), .ref (ad 7), .ref (ad 8), .ref (ad 9), .ref (ad 10), .ref (ad 11), .ref (ad 12)])),
   (ad 3, .inl (ca 3, 8, .inl (g 3))), (ad 4, .inl (ca 4, 8, .inl (g 4))), (ad 5, .inl (ca 5, 8, .inl (g 5))), (ad 6, .inl (ca 6, 16, .inl (g 6))), (ad 7, .inl (ca 7, 8, .inl (g 7))), (ad 8, .inl (ca 8, 9, .inl (g 8))), (ad 9, .inl (ca 9, 256, .inl (g 9))), (ad 10, .inl (ca 10, 256, .inl (g 10))), (ad 11, .inl (ca 11, 256, .inl (g 11))), (ad 12, .inl (ca 12, 256, .inl (g 12)))]
abbrev XT (ca : Nat → ClassId) : List (ClassId × FieldType) :=
  [(ca 3, .int), (ca 4, .int), (ca 5, .int), (ca 6, .int), (ca 7, .int), (ca 8, .int), (ca 9, .int), (ca 10, .int), (ca 11, .int), (ca 12, .boolean)]
abbrev ML (h : Nat) (ad : Nat → Nat) (ca : Nat → ClassId) (tc cl : Int32) (tr : Int64) (g : Sg) : va_W :=
  [(h, .inr (1, [.int tc, .ref (ad 1), .ref (ad 2), .ref (ad 3), .int cl, .long tr, .ref (ad 6), .ref (ad 7), .ref (ad 8)])),
   (ad 1, .inl (ca 1, 64, .inl (g 1))), (ad 2, .inl (ca 2, 8, .inl (g 2))), (ad 3, .inl (ca 3, 16, .inl (g 3))), (ad 6, .inl (ca 6, 256, .inl (g 6))), (ad 7, .inl (ca 7, 8, .inl (g 7))), (ad 8, .inl (ca 8, 6, .inl (g 8)))]
abbrev MT (ca : Nat → ClassId) : List (ClassId × FieldType) :=
  [(ca 1, .boolean), (ca 2, .int), (ca 3, .int), (ca 6, .boolean), (ca 7, .int), (ca 8, .int)]
abbrev at_X1 (dC : Nat → ClassId) (dI : Nat → Nat → Nat) (A : Nat → Prop) (h : Nat) (ad : Nat → Nat) (ca : Nat → ClassId) (tc cl : Int32) (tr : Int64) (u : Sg) (t : State) : Prop :=
  va_P (dC, dI) vwCl (XL h ad ca tc cl tr u) t.heap ∧ va_K (dC, dI) vwCl (XT ca) t ∧ va_D A (XL h ad ca tc cl tr u)
abbrev at_X2 (dC : Nat → ClassId) (dI : Nat → Nat → Nat) (A : Nat → Prop) (h : Nat) (ad : Nat → Nat) (ca : Nat → ClassId) (u : Int32 × Int32 × Int64 × Sg) (t : State) : Prop :=
  va_P (dC, dI) vwCl (XL h ad ca u.1 u.2.1 u.2.2.1 u.2.2.2) t.heap ∧ va_K (dC, dI) vwCl (XT ca) t ∧ va_D A (XL h ad ca u.1 u.2.1 u.2.2.1 u.2.2.2)
abbrev at_M1 (dC : Nat → ClassId) (dI : Nat → Nat → Nat) (A : Nat → Prop) (h : Nat) (ad : Nat → Nat) (ca : Nat → ClassId) (tc cl : Int32) (tr : Int64) (u : Sg) (t : State) : Prop :=
  va_P (dC, dI) vwCl (ML h ad ca tc cl tr u) t.heap ∧ va_K (dC, dI) vwCl (MT ca) t ∧ va_D A (ML h ad ca tc cl tr u)
abbrev at_M2 (dC : Nat → ClassId) (dI : Nat → Nat → Nat) (A : Nat → Prop) (h : Nat) (ad : Nat → Nat) (ca : Nat → ClassId) (u : Int32 × Int32 × Int64 × Sg) (t : State) : Prop :=
  va_P (dC, dI) vwCl (ML h ad ca u.1 u.2.1 u.2.2.1 u.2.2.2) t.heap ∧ va_K (dC, dI) vwCl (MT ca) t ∧ va_D A (ML h ad ca u.1 u.2.1 u.2.2.1 u.2.2.2)
