/-! LEAVES of the reference. -/
theorem ixN (i j : Nat) : (8 : Int32) * nI i + nI j = nI (8 * i + j) := by
  rw [show (8 : Int32) = nI 8 from rfl, pk_mul, nI_add]
theorem inM {i j : Nat} (hi : i < 8) (hj : j < 8) : vp_in ((8 : Int32) * nI i + nI j) 64 := by
  rw [ixN]; exact vp_in_nI (by omega) (by decide)
theorem blM {n k : Nat} {lt : Nat → Nat → Bool} {c : Nat → Nat} {wt : Nat → Int32} {tc cl : Int32} {g : Sg} (R : RM n k lt c wt tc cl g) {i j : Nat} (hi : i < 8) (hj : j < 8) : g 1 ((8 : Int32) * nI i + nI j).toNatClampNeg = if lt i j then 1 else 0 := by
  rw [ixN, nI_clamp (by omega)]
  exact R.2.2.1 i j hi hj
/-- a branch over what is below -/
theorem brM {n k : Nat} {lt : Nat → Nat → Bool} {c : Nat → Nat} {wt : Nat → Int32} {tc cl : Int32} {g : Sg} (R : RM n k lt c wt tc cl g) {i j : Nat} (hi : i < 8) (hj : j < 8) {A B : Prop} (f : lt i j = false → A) (h : lt i j = true → B) : (g 1 ((8 : Int32) * nI i + nI j).toNatClampNeg = 0 → A) ∧ (¬ g 1 ((8 : Int32) * nI i + nI j).toNatClampNeg = 0 → B) := by
  rw [blM R hi hj]
  cases hl : lt i j with
  | false => exact ⟨fun _ => f hl, fun q => absurd rfl q⟩
  | true => exact ⟨fun q => absurd q (by decide), fun _ => h hl⟩
theorem brM' {n k : Nat} {lt : Nat → Nat → Bool} {c : Nat → Nat} {wt : Nat → Int32} {tc cl : Int32} {g : Sg} (R : RM n k lt c wt tc cl g) {i j : Nat} (hi : i < 8) (hj : j < 8) {A B : Prop} (f : lt i j = true → A) (h : lt i j = false → B) : (¬ g 1 ((8 : Int32) * nI i + nI j).toNatClampNeg = 0 → A) ∧ (g 1 ((8 : Int32) * nI i + nI j).toNatClampNeg = 0 → B) :=
  ⟨(brM R hi hj h f).2, (brM R hi hj h f).1⟩
theorem top1 {n : Nat} (hn : n ≤ 8) : ((1 : Int32) <<< (nI n &&& 31)) - (1 : Int32) = nI (2 ^ n - 1) := by
  rw [sh1 n (by omega)]
  exact pk_sub (a := 2 ^ n) (b := 1) (Nat.one_le_two_pow)
theorem setM_y {P : Int32 → Prop} {n S : Nat} (hn : n ≤ 8) (hS : S < 2 ^ n) (h : P 1) : wM_in P (nI S) 0 (((1 : Int32) <<< (nI n &&& 31)) - (1 : Int32)) := by
  have := pw8 hn
  rw [top1 hn]
  exact inY (a := 0) (by omega) (by omega) (by omega) h
theorem setM_n {P : Int32 → Prop} {n : Nat} {x : Int32} (hn : n ≤ 8) (hx : ∀ i, i < 2 ^ n → x ≠ nI i) (h : P 0) : wM_in P x 0 (((1 : Int32) <<< (nI n &&& 31)) - (1 : Int32)) := by
  have := pw8 hn
  have := Nat.one_le_two_pow (n := n)
  rw [top1 hn]
  exact inN (a := 0) (by omega) (by omega) (fun i _ h2 => hx i (by omega)) h
theorem hM_y {P : Int32 → Prop} {n k : Nat} {lt : Nat → Nat → Bool} {c : Nat → Nat} {wt : Nat → Int32} {tc cl : Int32} {tr : Int64} {g : Sg} (A : AS n k lt c wt) (R : RM n k lt c wt tc cl g) {S : Nat} (H : Hp n lt S) (h : P 1) : wM_isHeap P tc cl tr g (nI S) := by
  obtain ⟨a1, a2, -, hO, -, -⟩ := A
  have hp := pw8 a2
  have hS : S < 2 ^ 31 := by have := H.1; omega
  unfold wM_isHeap
  rw [R.1]
  refine setM_y a2 H.1 (y1 ?_)
  refine Lp2_up (fun i x2 x3 => x3 = nI i ∧ x2 = 1) n ?_ 0 1 0 (Nat.zero_le _) ⟨rfl, rfl⟩
  rintro i x2 x3 hi ⟨rfl, rfl⟩ B hB
  unfold wM_isHeap_b22
  refine br_le (by omega) (by omega) (fun _ => ⟨Or.inr rfl, h⟩) (fun hlt => ?_)
  refine Lp2_up (fun j x2 x4 => x4 = nI j ∧ x2 = 1) n ?_ 0 1 0 (Nat.zero_le _) ⟨rfl, rfl⟩
  rintro j x2 x4 hj ⟨rfl, rfl⟩ B2 hB2
  unfold wM_isHeap_b33 wM_isHeap_j82 wM_isHeap_j78
  refine br_le (by omega) (by omega) (fun _ => hB _ _ hlt ⟨nI_1 i, rfl⟩) (fun hlt2 => ?_)
  have hn : B2 1 (nI j + 1) := hB2 _ _ hlt2 ⟨nI_1 j, rfl⟩
  refine z1 ⟨inM (by omega) (by omega), brM R (by omega) (by omega) (fun _ => hn) (fun hl => ?_)⟩
  refine hasM hS (by omega) ?_
  cases hb : S.testBit j with
  | false => exact z0 hn
  | true =>
    refine z1 (hasM hS (by omega) ?_)
    rw [H.2 i j hl hb]
    exact z1 hn
theorem hM_n {P : Int32 → Prop} {n k : Nat} {lt : Nat → Nat → Bool} {c : Nat → Nat} {wt : Nat → Int32} {tc cl : Int32} {tr : Int64} {g : Sg} (A : AS n k lt c wt) (R : RM n k lt c wt tc cl g) {x : Int32} (H : ∀ S, Hp n lt S → x ≠ nI S) (h : P 0) : wM_isHeap P tc cl tr g x := by
  obtain ⟨a1, a2, -, hO, -, -⟩ := A
  have hp := pw8 a2
  unfold wM_isHeap
  rw [R.1]
  by_cases hs : ∃ S, S < 2 ^ n ∧ x = nI S
  · obtain ⟨S, h1, rfl⟩ := hs
    have hS : S < 2 ^ 31 := by omega
    refine setM_y a2 h1 (y1 ?_)
    refine Lp2_up (fun i x2 x3 => x3 = nI i ∧ (x2 = 0 ∨ (x2 = 1 ∧ ∀ a, a < i → ∀ b, lt a b = true → S.testBit b = true → S.testBit a = true))) n ?_ 0 1 0 (Nat.zero_le _) ⟨rfl, Or.inr ⟨rfl, fun a ha => absurd ha (Nat.not_lt_zero a)⟩⟩
    rintro i x2 x3 hi ⟨rfl, hI⟩ B hB
    unfold wM_isHeap_b22
    refine br_le (by omega) (by omega) (fun hle => ?_) (fun hlt => ?_)
    · rcases hI with rfl | ⟨rfl, hI⟩
      · exact ⟨Or.inl rfl, h⟩
      · refine absurd rfl (H S ⟨h1, fun a b hab hb => hI a ?_ b hab hb⟩)
        have := hO.1 a b hab
        omega
    refine Lp2_up (fun j x2 x4 => x4 = nI j ∧ (x2 = 0 ∨ (x2 = 1 ∧ (∀ a, a < i → ∀ b, lt a b = true → S.testBit b = true → S.testBit a = true) ∧ ∀ b, b < j → lt i b = true → S.testBit b = true → S.testBit i = true))) n ?_ 0 x2 0 (Nat.zero_le _) ⟨rfl, hI.elim Or.inl (fun q => Or.inr ⟨q.1, q.2, fun b hb => absurd hb (Nat.not_lt_zero b)⟩)⟩
    rintro j x2 x4 hj ⟨rfl, hJ⟩ B2 hB2
    unfold wM_isHeap_b33 wM_isHeap_j82 wM_isHeap_j78
    refine br_le (by omega) (by omega) (fun hle => ?_) (fun hlt2 => ?_)
    · refine hB _ _ hlt ⟨nI_1 i, hJ.elim Or.inl (fun q => Or.inr ⟨q.1, fun a ha b hab hb => ?_⟩)⟩
      rcases Nat.lt_succ_iff_lt_or_eq.mp ha with r | r
      · exact q.2.1 a r b hab hb
      · subst r
        have := hO.1 a b hab
        exact q.2.2 b (by omega) hab hb
    have h0 : B2 0 (nI j + 1) := hB2 _ _ hlt2 ⟨nI_1 j, Or.inl rfl⟩
    rcases hJ with rfl | ⟨rfl, q1, q2⟩
    · exact z0 h0
    have hn : (lt i j = true → S.testBit j = true → S.testBit i = true) → B2 1 (nI j + 1) := fun q => hB2 _ _ hlt2 ⟨nI_1 j, Or.inr ⟨rfl, q1, fun b hb hl hb2 => by
      rcases Nat.lt_succ_iff_lt_or_eq.mp hb with r | r
      · exact q2 b r hl hb2
      · subst r; exact q hl hb2⟩⟩
    refine z1 ⟨inM (by omega) (by omega), brM R (by omega) (by omega) (fun hl => hn (fun q => by rw [hl] at q; cases q)) (fun hl => ?_)⟩
    refine hasM hS (by omega) ?_
    cases hb : S.testBit j with
    | false => exact z0 (hn (fun _ q => by rw [hb] at q; cases q))
    | true =>
      refine z1 (hasM hS (by omega) ?_)
      cases hb2 : S.testBit i with
      | false => exact z0 h0
      | true => exact z1 (hn (fun _ _ => hb2))
  · exact setM_n a2 (fun i hi e => hs ⟨i, hi, e⟩) (y0 h)
