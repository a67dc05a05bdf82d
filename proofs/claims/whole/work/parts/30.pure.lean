/-! PURE ROWS: loops by an index that goes up, branches over nI, bits. -/
theorem Lp1_up {A1 : Type} {F : (A1 → Prop) → A1 → Prop} (I : Nat → A1 → Prop) (e : Nat) (hs : ∀ (i : Nat) (a1 : A1), i ≤ e → I i a1 → ∀ B : A1 → Prop, (∀ (b1 : A1), i < e → I (i + 1) b1 → B b1) → F B a1) (i : Nat) (a1 : A1) (hi : i ≤ e) (h : I i a1) : ∃ n, Lp1 F n a1 := by
  have key : ∀ (n i : Nat) (a1 : A1), e < i + n → i ≤ e → I i a1 → Lp1 F n a1 := by
    intro n
    induction n with
    | zero => intro i a1 h1 h2; omega
    | succ n ih =>
      intro i a1 h1 h2 h3
      exact hs i a1 h2 h3 (Lp1 F n) (fun b1 hlt hb => ih (i + 1) b1 (by omega) (by omega) hb)
  exact ⟨e + 1 - i, key _ i a1 (by omega) hi h⟩
theorem Lp2_up {A1 A2 : Type} {F : (A1 → A2 → Prop) → A1 → A2 → Prop} (I : Nat → A1 → A2 → Prop) (e : Nat) (hs : ∀ (i : Nat) (a1 : A1) (a2 : A2), i ≤ e → I i a1 a2 → ∀ B : A1 → A2 → Prop, (∀ (b1 : A1) (b2 : A2), i < e → I (i + 1) b1 b2 → B b1 b2) → F B a1 a2) (i : Nat) (a1 : A1) (a2 : A2) (hi : i ≤ e) (h : I i a1 a2) : ∃ n, Lp2 F n a1 a2 := by
  have key : ∀ (n i : Nat) (a1 : A1) (a2 : A2), e < i + n → i ≤ e → I i a1 a2 → Lp2 F n a1 a2 := by
    intro n
    induction n with
    | zero => intro i a1 a2 h1 h2; omega
    | succ n ih =>
      intro i a1 a2 h1 h2 h3
      exact hs i a1 a2 h2 h3 (Lp2 F n) (fun b1 b2 hlt hb => ih (i + 1) b1 b2 (by omega) (by omega) hb)
  exact ⟨e + 1 - i, key _ i a1 a2 (by omega) hi h⟩
theorem Lp3_up {A1 A2 A3 : Type} {F : (A1 → A2 → A3 → Prop) → A1 → A2 → A3 → Prop} (I : Nat → A1 → A2 → A3 → Prop) (e : Nat) (hs : ∀ (i : Nat) (a1 : A1) (a2 : A2) (a3 : A3), i ≤ e → I i a1 a2 a3 → ∀ B : A1 → A2 → A3 → Prop, (∀ (b1 : A1) (b2 : A2) (b3 : A3), i < e → I (i + 1) b1 b2 b3 → B b1 b2 b3) → F B a1 a2 a3) (i : Nat) (a1 : A1) (a2 : A2) (a3 : A3) (hi : i ≤ e) (h : I i a1 a2 a3) : ∃ n, Lp3 F n a1 a2 a3 := by
  have key : ∀ (n i : Nat) (a1 : A1) (a2 : A2) (a3 : A3), e < i + n → i ≤ e → I i a1 a2 a3 → Lp3 F n a1 a2 a3 := by
    intro n
    induction n with
    | zero => intro i a1 a2 a3 h1 h2; omega
    | succ n ih =>
      intro i a1 a2 a3 h1 h2 h3
      exact hs i a1 a2 a3 h2 h3 (Lp3 F n) (fun b1 b2 b3 hlt hb => ih (i + 1) b1 b2 b3 (by omega) (by omega) hb)
  exact ⟨e + 1 - i, key _ i a1 a2 a3 (by omega) hi h⟩
theorem Lp4_up {A1 A2 A3 A4 : Type} {F : (A1 → A2 → A3 → A4 → Prop) → A1 → A2 → A3 → A4 → Prop} (I : Nat → A1 → A2 → A3 → A4 → Prop) (e : Nat) (hs : ∀ (i : Nat) (a1 : A1) (a2 : A2) (a3 : A3) (a4 : A4), i ≤ e → I i a1 a2 a3 a4 → ∀ B : A1 → A2 → A3 → A4 → Prop, (∀ (b1 : A1) (b2 : A2) (b3 : A3) (b4 : A4), i < e → I (i + 1) b1 b2 b3 b4 → B b1 b2 b3 b4) → F B a1 a2 a3 a4) (i : Nat) (a1 : A1) (a2 : A2) (a3 : A3) (a4 : A4) (hi : i ≤ e) (h : I i a1 a2 a3 a4) : ∃ n, Lp4 F n a1 a2 a3 a4 := by
  have key : ∀ (n i : Nat) (a1 : A1) (a2 : A2) (a3 : A3) (a4 : A4), e < i + n → i ≤ e → I i a1 a2 a3 a4 → Lp4 F n a1 a2 a3 a4 := by
    intro n
    induction n with
    | zero => intro i a1 a2 a3 a4 h1 h2; omega
    | succ n ih =>
      intro i a1 a2 a3 a4 h1 h2 h3
      exact hs i a1 a2 a3 a4 h2 h3 (Lp4 F n) (fun b1 b2 b3 b4 hlt hb => ih (i + 1) b1 b2 b3 b4 (by omega) (by omega) hb)
  exact ⟨e + 1 - i, key _ i a1 a2 a3 a4 (by omega) hi h⟩
theorem Lp5_up {A1 A2 A3 A4 A5 : Type} {F : (A1 → A2 → A3 → A4 → A5 → Prop) → A1 → A2 → A3 → A4 → A5 → Prop} (I : Nat → A1 → A2 → A3 → A4 → A5 → Prop) (e : Nat) (hs : ∀ (i : Nat) (a1 : A1) (a2 : A2) (a3 : A3) (a4 : A4) (a5 : A5), i ≤ e → I i a1 a2 a3 a4 a5 → ∀ B : A1 → A2 → A3 → A4 → A5 → Prop, (∀ (b1 : A1) (b2 : A2) (b3 : A3) (b4 : A4) (b5 : A5), i < e → I (i + 1) b1 b2 b3 b4 b5 → B b1 b2 b3 b4 b5) → F B a1 a2 a3 a4 a5) (i : Nat) (a1 : A1) (a2 : A2) (a3 : A3) (a4 : A4) (a5 : A5) (hi : i ≤ e) (h : I i a1 a2 a3 a4 a5) : ∃ n, Lp5 F n a1 a2 a3 a4 a5 := by
  have key : ∀ (n i : Nat) (a1 : A1) (a2 : A2) (a3 : A3) (a4 : A4) (a5 : A5), e < i + n → i ≤ e → I i a1 a2 a3 a4 a5 → Lp5 F n a1 a2 a3 a4 a5 := by
    intro n
    induction n with
    | zero => intro i a1 a2 a3 a4 a5 h1 h2; omega
    | succ n ih =>
      intro i a1 a2 a3 a4 a5 h1 h2 h3
      exact hs i a1 a2 a3 a4 a5 h2 h3 (Lp5 F n) (fun b1 b2 b3 b4 b5 hlt hb => ih (i + 1) b1 b2 b3 b4 b5 (by omega) (by omega) hb)
  exact ⟨e + 1 - i, key _ i a1 a2 a3 a4 a5 (by omega) hi h⟩
theorem fa_lit (n : Nat) : (OfNat.ofNat n : Int32) = nI n := rfl
theorem fa_and (a b : Nat) : nI a &&& nI b = nI (a &&& b) := by
  apply Int32.toBitVec_inj.1
  show BitVec.ofNat 32 a &&& BitVec.ofNat 32 b = BitVec.ofNat 32 (a &&& b)
  apply BitVec.eq_of_getLsbD_eq
  intro i hi
  simp [hi]
theorem fa_or (a b : Nat) : nI a ||| nI b = nI (a ||| b) := by
  apply Int32.toBitVec_inj.1
  show BitVec.ofNat 32 a ||| BitVec.ofNat 32 b = BitVec.ofNat 32 (a ||| b)
  apply BitVec.eq_of_getLsbD_eq
  intro i hi
  simp [hi]
theorem fb_xorI (a b : Nat) : nI a ^^^ nI b = nI (a ^^^ b) := by
  apply Int32.toBitVec_inj.1
  show BitVec.ofNat 32 a ^^^ BitVec.ofNat 32 b = BitVec.ofNat 32 (a ^^^ b)
  apply BitVec.eq_of_getLsbD_eq
  intro i hi
  simp [hi]
theorem br_le {a b : Nat} {A B : Prop} (ha : a < 2 ^ 31) (hb : b < 2 ^ 31) (f : a ≤ b → A) (g : b < a → B) : (nI a ≤ nI b → A) ∧ (¬ nI a ≤ nI b → B) :=
  ⟨fun h => f ((nI_leI ha hb).mp h), fun h => g (Nat.lt_of_not_le (fun q => h ((nI_leI ha hb).mpr q)))⟩
theorem br_lt {a b : Nat} {A B : Prop} (ha : a < 2 ^ 31) (hb : b < 2 ^ 31) (f : a < b → A) (g : b ≤ a → B) : (nI a < nI b → A) ∧ (¬ nI a < nI b → B) :=
  ⟨fun h => f ((nI_ltI ha hb).mp h), fun h => g (Nat.le_of_not_lt (fun q => h ((nI_ltI ha hb).mpr q)))⟩
theorem br_eq {a b : Nat} {A B : Prop} (ha : a < 2 ^ 31) (hb : b < 2 ^ 31) (f : a = b → A) (g : a ≠ b → B) : (nI a = nI b → A) ∧ (¬ nI a = nI b → B) :=
  ⟨fun h => f ((nI_eq ha hb).mp h), fun h => g (fun q => h ((nI_eq ha hb).mpr q))⟩
theorem br_ne {a b : Nat} {A B : Prop} (ha : a < 2 ^ 31) (hb : b < 2 ^ 31) (f : a ≠ b → A) (g : a = b → B) : (¬ nI a = nI b → A) ∧ (nI a = nI b → B) :=
  ⟨fun h => f (fun q => h ((nI_eq ha hb).mpr q)), fun h => g ((nI_eq ha hb).mp h)⟩
theorem z0 {A B : Prop} (a : A) : ((0 : Int32) = 0 → A) ∧ (¬ (0 : Int32) = 0 → B) := ⟨fun _ => a, fun h => absurd rfl h⟩
theorem z1 {A B : Prop} (b : B) : ((1 : Int32) = 0 → A) ∧ (¬ (1 : Int32) = 0 → B) := ⟨fun h => absurd h (by decide), fun _ => b⟩
theorem y0 {A B : Prop} (b : B) : (¬ (0 : Int32) = 0 → A) ∧ ((0 : Int32) = 0 → B) := ⟨fun h => absurd rfl h, fun _ => b⟩
theorem y1 {A B : Prop} (a : A) : (¬ (1 : Int32) = 0 → A) ∧ ((1 : Int32) = 0 → B) := ⟨fun _ => a, fun h => absurd h (by decide)⟩
theorem sh1 : ∀ n, n < 31 → (1 : Int32) <<< (nI n &&& 31) = nI (2 ^ n) := by decide +kernel
theorem s_l : ∀ n, n < 32 → ((nI n &&& 31).toBitVec.smod 32).toNat = n := by decide +kernel
theorem hasN {S i : Nat} (hS : S < 2 ^ 31) (hi : i < 32) : (nI S >>> (nI i &&& 31)) &&& (1 : Int32) = nI ((S.testBit i).toNat) := by
  rw [pk_shrN hS _ i (s_l i hi), pk_andN (by have := Nat.div_le_self S (2 ^ i); omega) 1 (by decide)]
  rw [Nat.testBit_eq_decide_div_mod_eq]
  congr 1
  have h := Nat.mod_two_eq_zero_or_one (S / 2 ^ i)
  rcases h with h | h <;> simp [h]
theorem notN {D S : Nat} (hD : D < 2 ^ 31) : (nI D &&& (nI S ^^^ (-1 : Int32)) = 0) ↔ ∀ j, D.testBit j = true → S.testBit j = true := by
  have e1 : (-1 : Int32) = nI (2 ^ 32 - 1) := by decide
  have hlt : D &&& (S ^^^ (2 ^ 32 - 1)) < 2 ^ 31 := Nat.lt_of_le_of_lt Nat.and_le_left hD
  rw [e1, fb_xorI, fa_and, ← nI_0, nI_eq hlt (by decide)]
  constructor
  · intro h j hj
    have h2 : (D &&& (S ^^^ (2 ^ 32 - 1))).testBit j = false := by rw [h]; exact Nat.zero_testBit j
    have hj32 : j < 32 := by
      rcases Nat.lt_or_ge j 32 with q | q
      · exact q
      · have := Nat.testBit_lt_two_pow (x := D) (i := j) (Nat.lt_of_lt_of_le hD (Nat.pow_le_pow_right (by decide) (by omega)))
        rw [this] at hj; cases hj
    rw [Nat.testBit_and, Nat.testBit_xor, Nat.testBit_two_pow_sub_one, hj] at h2
    simpa [hj32] using h2
  · intro h
    apply Nat.eq_of_testBit_eq
    intro j
    rw [Nat.testBit_and, Nat.testBit_xor, Nat.testBit_two_pow_sub_one, Nat.zero_testBit]
    cases hd : D.testBit j with
    | false => rfl
    | true =>
      have hj32 : j < 32 := by
        rcases Nat.lt_or_ge j 32 with q | q
        · exact q
        · have := Nat.testBit_lt_two_pow (x := D) (i := j) (Nat.lt_of_lt_of_le hD (Nat.pow_le_pow_right (by decide) (by omega)))
          rw [this] at hd; cases hd
      simp [h j hd, hj32]
theorem andN {D S : Nat} (hD : D < 2 ^ 31) : (nI D &&& nI S = 0) ↔ ∀ j, D.testBit j = true → S.testBit j = false := by
  have hlt : D &&& S < 2 ^ 31 := Nat.lt_of_le_of_lt Nat.and_le_left hD
  rw [fa_and, ← nI_0, nI_eq hlt (by decide)]
  constructor
  · intro h j hj
    have h2 : (D &&& S).testBit j = false := by rw [h]; exact Nat.zero_testBit j
    rw [Nat.testBit_and, hj] at h2
    simpa using h2
  · intro h
    apply Nat.eq_of_testBit_eq
    intro j
    rw [Nat.testBit_and, Nat.zero_testBit]
    cases hd : D.testBit j with
    | false => rfl
    | true => rw [h j hd]; rfl
def mkS (p : Nat → Bool) : Nat → Nat
  | 0 => 0
  | m + 1 => mkS p m ||| (if p m then 2 ^ m else 0)
theorem mkS_bit (p : Nat → Bool) : ∀ m i, (mkS p m).testBit i = (decide (i < m) && p i)
  | 0, i => by simp [mkS]
  | m + 1, i => by
    rw [mkS, Nat.testBit_or, mkS_bit p m i]
    cases hp : p m with
    | false =>
      simp only [Bool.false_eq_true, ↓reduceIte, Nat.zero_testBit, Bool.or_false]
      rcases Nat.lt_trichotomy i m with h | h | h
      · simp [h, Nat.lt_succ_of_lt h]
      · subst h; simp [hp]
      · simp [Nat.not_lt.mpr (Nat.le_of_lt h), show ¬ i < m + 1 by omega]
    | true =>
      simp only [↓reduceIte, Nat.testBit_two_pow]
      rcases Nat.lt_trichotomy i m with h | h | h
      · simp [h, Nat.lt_succ_of_lt h, Nat.ne_of_gt h]
      · subst h; simp [hp]
      · simp [Nat.not_lt.mpr (Nat.le_of_lt h), show ¬ i < m + 1 by omega, Nat.ne_of_lt h]
theorem mkS_lt (p : Nat → Bool) : ∀ m, mkS p m < 2 ^ m
  | 0 => by simp [mkS]
  | m + 1 => by
    rw [mkS]
    refine Nat.or_lt_two_pow (Nat.lt_trans (mkS_lt p m) (Nat.pow_lt_pow_right (by decide) (Nat.lt_succ_self m))) ?_
    split
    · exact Nat.pow_lt_pow_right (by decide) (Nat.lt_succ_self m)
    · exact Nat.two_pow_pos _
theorem up2_same (g : Sg) (k i : Nat) (x : Int32) : up2 g k i x k = upd (g k) i x := by simp [up2]
theorem up2_ne (g : Sg) {k a : Nat} (i : Nat) (x : Int32) (h : a ≠ k) : up2 g k i x a = g a := by
  have : Nat.beq a k = false := by
    cases hb : Nat.beq a k with
    | false => rfl
    | true => exact absurd (Nat.eq_of_beq_eq_true hb) h
  simp [up2, this]
theorem upd_eq (f : Nat → Int32) (k : Nat) (x : Int32) : upd f k x k = x := by simp [upd]
theorem upd_ne (f : Nat → Int32) {k j : Nat} (x : Int32) (h : j ≠ k) : upd f k x j = f j := by simp [upd, h]
def Or8 (n : Nat) (lt : Nat → Nat → Bool) : Prop := (∀ i k, lt i k = true → i < k ∧ k < n) ∧ ∀ i k m, lt i k = true → lt k m = true → lt i m = true
def AS (n k : Nat) (lt : Nat → Nat → Bool) (c : Nat → Nat) (wt : Nat → Int32) : Prop :=
  1 ≤ n ∧ n ≤ 8 ∧ k ≤ 16 ∧ Or8 n lt ∧ (∀ j, j < k → c j < n) ∧ ∀ i, i < 8 → -9 ≤ (wt i).toInt ∧ (wt i).toInt ≤ 9
def RX (n k : Nat) (lt : Nat → Nat → Bool) (c : Nat → Nat) (wt : Nat → Int32) (tc cl : Int32) (g : Sg) : Prop :=
  tc = nI n ∧ cl = nI k ∧ (∀ i, i < 8 → g 3 i = nI (mkS (fun j => lt j i) 8)) ∧ (∀ i, i < 8 → g 4 i = nI (mkS (fun j => lt i j) 8)) ∧ (∀ i, i < 8 → g 5 i = wt i) ∧ ∀ j, j < k → g 6 j = nI (c j)
def RM (n k : Nat) (lt : Nat → Nat → Bool) (c : Nat → Nat) (wt : Nat → Int32) (tc cl : Int32) (g : Sg) : Prop :=
  tc = nI n ∧ cl = nI k ∧ (∀ i j, i < 8 → j < 8 → g 1 (8 * i + j) = if lt i j then 1 else 0) ∧ (∀ i, i < 8 → g 2 i = wt i) ∧ ∀ j, j < k → g 3 j = nI (c j)
def Rel (tc cl : Int32) (tr : Int64) (g : Sg) (tc' cl' : Int32) (tr' : Int64) (g' : Sg) : Prop :=
  ∃ (n k : Nat) (lt : Nat → Nat → Bool) (c : Nat → Nat) (wt : Nat → Int32), AS n k lt c wt ∧ RX n k lt c wt tc cl g ∧ RM n k lt c wt tc' cl' g' ∧ tr = tr'
theorem RX.keep {n k : Nat} {lt : Nat → Nat → Bool} {c : Nat → Nat} {wt : Nat → Int32} {tc cl : Int32} {g g2 : Sg} (h : RX n k lt c wt tc cl g) (e : ∀ a, a < 7 → g2 a = g a) : RX n k lt c wt tc cl g2 := by
  obtain ⟨h1, h2, h3, h4, h5, h6⟩ := h
  exact ⟨h1, h2, by rw [e 3 (by omega)]; exact h3, by rw [e 4 (by omega)]; exact h4, by rw [e 5 (by omega)]; exact h5, by rw [e 6 (by omega)]; exact h6⟩
theorem RM.keep {n k : Nat} {lt : Nat → Nat → Bool} {c : Nat → Nat} {wt : Nat → Int32} {tc cl : Int32} {g g2 : Sg} (h : RM n k lt c wt tc cl g) (e : ∀ a, a < 4 → g2 a = g a) : RM n k lt c wt tc cl g2 := by
  obtain ⟨h1, h2, h3, h4, h5⟩ := h
  exact ⟨h1, h2, by rw [e 1 (by omega)]; exact h3, by rw [e 2 (by omega)]; exact h4, by rw [e 3 (by omega)]; exact h5⟩
/-- a heap -/
def Hp (n : Nat) (lt : Nat → Nat → Bool) (S : Nat) : Prop := S < 2 ^ n ∧ ∀ i k, lt i k = true → S.testBit k = true → S.testBit i = true
theorem pw8 {n : Nat} (h : n ≤ 8) : 2 ^ n ≤ 256 := Nat.pow_le_pow_right (by decide) h
theorem bit_lt {S n i : Nat} (h : S < 2 ^ n) (hb : S.testBit i = true) : i < n := by
  rcases Nat.lt_or_ge i n with q | q
  · exact q
  · rw [Nat.testBit_lt_two_pow (Nat.lt_of_lt_of_le h (Nat.pow_le_pow_right (by decide) q))] at hb; cases hb
/-- an int is a number below N, or it isn't -/
theorem i_cases (x : Int32) (N : Nat) (hN : N < 2 ^ 31) : (∃ j, j < N ∧ x = nI j) ∨ (x < 0 ∨ nI N ≤ x) := by
  rcases pk_ix x hN with h | h | h
  · exact Or.inr (Or.inl h)
  · exact Or.inr (Or.inr h)
  · exact Or.inl h

