/-! LEAVES: things, sets, heaps, in both classes. '_y': it is so, '_n': it isn't. -/
theorem i_not {x : Int32} {N : Nat} (hN : N < 2 ^ 31) (h : x < 0 ∨ nI N ≤ x) : ∀ i, i < N → x ≠ nI i := by
  intro i hi e
  subst e
  rcases h with h | h
  · exact nI_pos (by omega) h
  · exact nI_ge hi hN h
theorem i_no {x : Int32} {N : Nat} (hN : N < 2 ^ 31) (h : ∀ i, i < N → x ≠ nI i) : x < 0 ∨ nI N ≤ x := by
  rcases i_cases x N hN with ⟨j, hj, e⟩ | h2
  · exact absurd e (h j hj)
  · exact h2
theorem tX_y {P : Int32 → Prop} {tc cl : Int32} {tr : Int64} {g : Sg} {n i : Nat} (ht : tc = nI n) (hn : n ≤ 8) (hi : i < n) (h : P 1) : wX_isThing P tc cl tr g (nI i) := by
  subst ht
  exact ⟨fun q => absurd q (nI_pos (by omega)), fun _ => ⟨fun q => absurd q (nI_ge hi (by omega)), fun _ => h⟩⟩
theorem tX_n {P : Int32 → Prop} {tc cl : Int32} {tr : Int64} {g : Sg} {n : Nat} {x : Int32} (ht : tc = nI n) (hn : n ≤ 8) (hx : ∀ i, i < n → x ≠ nI i) (h : P 0) : wX_isThing P tc cl tr g x := by
  subst ht
  refine ⟨fun _ => h, fun q => ⟨fun _ => h, fun r => ?_⟩⟩
  rcases i_no (by omega) hx with u | u
  · exact absurd u q
  · exact absurd u r
theorem pM_in {P : Int32 → Prop} {x lo hi : Int32} (h1 : ¬ x < lo → ¬ hi < x → P 1) (h0 : (x < lo ∨ hi < x) → P 0) : wM_in P x lo hi :=
  ⟨fun h => h0 (Or.inl h), fun h => ⟨fun h' => h0 (Or.inr h'), fun h' => h1 h h'⟩⟩
theorem inY {P : Int32 → Prop} {i a b : Nat} (h1 : a ≤ i) (h2 : i ≤ b) (hb : b < 2 ^ 31) (h : P 1) : wM_in P (nI i) (nI a) (nI b) :=
  pM_in (fun _ _ => h) (fun q => q.elim (fun q => absurd ((nI_ltI (by omega) (by omega)).mp q) (by omega)) (fun q => absurd ((nI_ltI (by omega) (by omega)).mp q) (by omega)))
theorem inN {P : Int32 → Prop} {x : Int32} {a b : Nat} (hb : b < 2 ^ 31 - 1) (ha : a < 2 ^ 31) (hx : ∀ i, a ≤ i → i ≤ b → x ≠ nI i) (h : P 0) : wM_in P x (nI a) (nI b) := by
  refine pM_in (fun q r => ?_) (fun _ => h)
  rcases i_cases x (b + 1) (by omega) with ⟨j, hj, e⟩ | u
  · subst e
    rcases Nat.lt_or_ge j a with w | w
    · exact absurd (nI_lt w (by omega)) q
    · exact absurd rfl (hx j w (by omega))
  · rcases u with u | u
    · refine absurd ?_ q
      rw [Int32.lt_iff_toInt_lt] at u ⊢
      rw [nI_toInt (by omega)]
      have : (0 : Int32).toInt = 0 := by decide
      omega
    · refine absurd ?_ r
      rw [Int32.lt_iff_toInt_lt]
      rw [Int32.le_iff_toInt_le] at u
      rw [nI_toInt (by omega)] at u ⊢
      omega
theorem tM_y {P : Int32 → Prop} {tc cl : Int32} {tr : Int64} {g : Sg} {n i : Nat} (ht : tc = nI n) (hn : n ≤ 8) (hi : i < n) (h : P 1) : wM_isThing P tc cl tr g (nI i) := by
  subst ht
  unfold wM_isThing
  rw [show nI n - (1 : Int32) = nI (n - 1) from pk_sub (a := n) (b := 1) (by omega)]
  exact inY (a := 0) (by omega) (by omega) (by omega) ⟨Or.inr rfl, h⟩
theorem tM_n {P : Int32 → Prop} {tc cl : Int32} {tr : Int64} {g : Sg} {n : Nat} {x : Int32} (ht : tc = nI n) (hn1 : 1 ≤ n) (hn : n ≤ 8) (hx : ∀ i, i < n → x ≠ nI i) (h : P 0) : wM_isThing P tc cl tr g x := by
  subst ht
  unfold wM_isThing
  rw [show nI n - (1 : Int32) = nI (n - 1) from pk_sub (a := n) (b := 1) (by omega)]
  exact inN (a := 0) (by omega) (by omega) (fun i _ h2 => hx i (by omega)) ⟨Or.inl rfl, h⟩
theorem hasX {P : Int32 → Prop} {S i : Nat} (hS : S < 2 ^ 31) (hi : i < 32) (h : P (nI (S.testBit i).toNat)) : wX_has P (nI S) (nI i) := by
  unfold wX_has
  rw [hasN hS hi]
  cases hb : S.testBit i with
  | false => rw [hb] at h; exact ⟨fun _ => h, fun q => absurd rfl q⟩
  | true => rw [hb] at h; exact ⟨fun q => absurd q (by decide), fun _ => h⟩
theorem hasM {P : Int32 → Prop} {S i : Nat} (hS : S < 2 ^ 31) (hi : i < 32) (h : P (nI (S.testBit i).toNat)) : wM_has P (nI S) (nI i) := by
  unfold wM_has
  rw [hasN hS hi]
  cases hb : S.testBit i with
  | false => rw [hb] at h; exact ⟨fun _ => h, fun q => absurd q (by decide)⟩
  | true => rw [hb] at h; exact ⟨fun q => absurd rfl q, fun _ => h⟩
theorem scX {P : Int32 → Prop} {tc cl : Int32} {tr : Int64} {g : Sg} {n : Nat} (ht : tc = nI n) (hn : n ≤ 8) (h : P (nI (2 ^ n))) : wX_setCount P tc cl tr g := by
  subst ht
  unfold wX_setCount
  rw [sh1 n (by omega)]
  exact h
theorem setX_y {P : Int32 → Prop} {tc cl : Int32} {tr : Int64} {g : Sg} {n S : Nat} (ht : tc = nI n) (hn : n ≤ 8) (hS : S < 2 ^ n) (h : P 1) : wX_isSet P tc cl tr g (nI S) := by
  have := pw8 hn
  refine ⟨fun q => absurd q (nI_pos (by omega)), fun _ => scX ht hn ⟨fun q => absurd q (nI_ge hS (by omega)), fun _ => h⟩⟩
theorem setX_n {P : Int32 → Prop} {tc cl : Int32} {tr : Int64} {g : Sg} {n : Nat} {x : Int32} (ht : tc = nI n) (hn : n ≤ 8) (hx : ∀ i, i < 2 ^ n → x ≠ nI i) (h : P 0) : wX_isSet P tc cl tr g x := by
  have := pw8 hn
  refine ⟨fun _ => h, fun q => scX ht hn ⟨fun _ => h, fun r => ?_⟩⟩
  rcases i_no (by omega) hx with u | u
  · exact absurd u q
  · exact absurd u r
/-- the row of what is below, as X has it -/
theorem unX {n k : Nat} {lt : Nat → Nat → Bool} {c : Nat → Nat} {wt : Nat → Int32} {tc cl : Int32} {g : Sg} (R : RX n k lt c wt tc cl g) {i S : Nat} (hi : i < 8) (hO : Or8 n lt) (hn : n ≤ 8) : (g 3 i &&& (nI S ^^^ (-1 : Int32)) = 0) ↔ ∀ j, lt j i = true → S.testBit j = true := by
  rw [R.2.2.1 i hi, notN (Nat.lt_of_lt_of_le (mkS_lt _ 8) (by decide))]
  constructor
  · intro h j hj
    exact h j (by rw [mkS_bit]; have := hO.1 j i hj; simp [hj, show j < 8 by omega])
  · intro h j hj
    rw [mkS_bit] at hj
    exact h j (by simp at hj; exact hj.2)
theorem ovX {n k : Nat} {lt : Nat → Nat → Bool} {c : Nat → Nat} {wt : Nat → Int32} {tc cl : Int32} {g : Sg} (R : RX n k lt c wt tc cl g) {i S : Nat} (hi : i < 8) (hO : Or8 n lt) (hn : n ≤ 8) : (g 4 i &&& nI S = 0) ↔ ∀ j, lt i j = true → S.testBit j = false := by
  rw [R.2.2.2.1 i hi, andN (Nat.lt_of_lt_of_le (mkS_lt _ 8) (by decide))]
  constructor
  · intro h j hj
    exact h j (by rw [mkS_bit]; have := hO.1 i j hj; simp [hj, show j < 8 by omega])
  · intro h j hj
    rw [mkS_bit] at hj
    exact h j (by simp at hj; exact hj.2)
theorem hX_y {P : Int32 → Prop} {n k : Nat} {lt : Nat → Nat → Bool} {c : Nat → Nat} {wt : Nat → Int32} {tc cl : Int32} {tr : Int64} {g : Sg} (A : AS n k lt c wt) (R : RX n k lt c wt tc cl g) {S : Nat} (H : Hp n lt S) (h : P 1) : wX_isHeap P tc cl tr g (nI S) := by
  obtain ⟨a1, a2, -, hO, -, -⟩ := A
  have hp := pw8 a2
  have hS : S < 2 ^ 31 := by have := H.1; omega
  refine setX_y R.1 a2 H.1 (y1 ?_)
  refine Lp1_up (fun i x2 => x2 = nI i) n ?_ 0 0 (Nat.zero_le _) rfl
  intro i x2 hi e B hB
  subst e
  unfold wX_isHeap_b12
  rw [R.1]
  refine br_le (by omega) (by omega) (fun _ => h) (fun hlt => ?_)
  have hnext : B (nI i + 1) := hB _ hlt (nI_1 i)
  refine hasX hS (by omega) ?_
  cases hb : S.testBit i with
  | false => exact z0 hnext
  | true =>
    refine z1 ⟨vp_in_nI (by omega) (by omega), fun _ => hnext, fun q => absurd ?_ q⟩
    rw [nI_clamp (by omega), unX R (by omega) hO a2]
    exact fun j hj => H.2 j i hj hb
theorem hX_n {P : Int32 → Prop} {n k : Nat} {lt : Nat → Nat → Bool} {c : Nat → Nat} {wt : Nat → Int32} {tc cl : Int32} {tr : Int64} {g : Sg} (A : AS n k lt c wt) (R : RX n k lt c wt tc cl g) {x : Int32} (H : ∀ S, Hp n lt S → x ≠ nI S) (h : P 0) : wX_isHeap P tc cl tr g x := by
  obtain ⟨a1, a2, -, hO, -, -⟩ := A
  have hp := pw8 a2
  by_cases hs : ∃ S, S < 2 ^ n ∧ x = nI S
  · obtain ⟨S, h1, rfl⟩ := hs
    have hS : S < 2 ^ 31 := by omega
    refine setX_y R.1 a2 h1 (y1 ?_)
    refine Lp1_up (fun i x2 => x2 = nI i ∧ ∀ k, k < i → S.testBit k = true → ∀ j, lt j k = true → S.testBit j = true) n ?_ 0 0 (Nat.zero_le _) ⟨rfl, fun k hk => absurd hk (Nat.not_lt_zero k)⟩
    rintro i x2 hi ⟨e, hI⟩ B hB
    subst e
    unfold wX_isHeap_b12
    rw [R.1]
    refine br_le (by omega) (by omega) (fun hle => ?_) (fun hlt => ?_)
    · exact absurd rfl (H S ⟨h1, fun j k hj hk => hI k (Nat.lt_of_lt_of_le (hO.1 j k hj).2 hle) hk j hj⟩)
    refine hasX hS (by omega) ?_
    cases hb : S.testBit i with
    | false =>
      refine z0 (hB _ hlt ⟨nI_1 i, fun k hk hk2 j hj => ?_⟩)
      rcases Nat.lt_succ_iff_lt_or_eq.mp hk with q | q
      · exact hI k q hk2 j hj
      · rw [q, hb] at hk2; cases hk2
    | true =>
      refine z1 ⟨vp_in_nI (by omega) (by omega), fun q => hB _ hlt ⟨nI_1 i, fun k hk hk2 j hj => ?_⟩, fun _ => h⟩
      rw [nI_clamp (by omega), unX R (by omega) hO a2] at q
      rcases Nat.lt_succ_iff_lt_or_eq.mp hk with r | r
      · exact hI k r hk2 j hj
      · rw [r] at hj; exact q j hj
  · exact setX_n R.1 a2 (fun i hi e => hs ⟨i, hi, e⟩) (y0 h)
