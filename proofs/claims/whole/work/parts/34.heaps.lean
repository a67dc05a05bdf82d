/-! HEAPS: flips, turns, their numbers. -/
noncomputable def hpb (n : Nat) (lt : Nat → Nat → Bool) (S : Nat) : Bool := @decide (Hp n lt S) (Classical.propDecidable _)
theorem hpb_t {n : Nat} {lt : Nat → Nat → Bool} {S : Nat} : hpb n lt S = true ↔ Hp n lt S := by unfold hpb; exact @decide_eq_true_iff _ (Classical.propDecidable _)
theorem hpb_f {n : Nat} {lt : Nat → Nat → Bool} {S : Nat} : hpb n lt S = false ↔ ¬ Hp n lt S := by
  rw [← hpb_t]; simp
/-- isHeap at a number -/
theorem hX {P : Int32 → Prop} {n k : Nat} {lt : Nat → Nat → Bool} {c : Nat → Nat} {wt : Nat → Int32} {tc cl : Int32} {tr : Int64} {g : Sg} (A : AS n k lt c wt) (R : RX n k lt c wt tc cl g) {S : Nat} (hS : S < 2 ^ 31) (h1 : Hp n lt S → P 1) (h0 : ¬ Hp n lt S → P 0) : wX_isHeap P tc cl tr g (nI S) := by
  have hp := pw8 A.2.1
  by_cases H : Hp n lt S
  · exact hX_y A R H (h1 H)
  · exact hX_n A R (fun T hT q => H (by have := hT.1; rw [(nI_eq hS (by omega)).mp q]; exact hT)) (h0 H)
theorem hM {P : Int32 → Prop} {n k : Nat} {lt : Nat → Nat → Bool} {c : Nat → Nat} {wt : Nat → Int32} {tc cl : Int32} {tr : Int64} {g : Sg} (A : AS n k lt c wt) (R : RM n k lt c wt tc cl g) {S : Nat} (hS : S < 2 ^ 31) (h1 : Hp n lt S → P 1) (h0 : ¬ Hp n lt S → P 0) : wM_isHeap P tc cl tr g (nI S) := by
  have hp := pw8 A.2.1
  by_cases H : Hp n lt S
  · exact hM_y A R H (h1 H)
  · exact hM_n A R (fun T hT q => H (by have := hT.1; rw [(nI_eq hS (by omega)).mp q]; exact hT)) (h0 H)
theorem st_heap : Step_heap Rel := by
  intro tc cl tr g tc' cl' tr' g' a1 hR
  obtain ⟨n, k, lt, c, wt, A, X, M, e⟩ := id hR
  obtain ⟨b1, b2, -⟩ := id A
  have hp := pw8 b2
  have e1 := M.1
  subst e1
  unfold wX_heap
  by_cases h1 : ∃ i, i < 2 ^ n ∧ a1 = nI i
  · obtain ⟨S, hS, rfl⟩ := h1
    refine setX_y X.1 b2 hS (y1 ?_)
    refine hX A X (by omega) (fun H => z1 ?_) (fun H => z0 ?_)
    · unfold wM_heap
      exact setM_y b2 hS (y1 (hM_y A M H (z1 ⟨rfl, hR⟩)))
    · unfold wM_heap
      exact setM_y b2 hS (y1 (hM A M (by omega) (fun q => absurd q H) (fun _ => z0 ⟨rfl, hR⟩)))
  · have hx : ∀ j, j < 2 ^ n → a1 ≠ nI j := fun j hj q => h1 ⟨j, hj, q⟩
    refine setX_n X.1 b2 hx (y0 ?_)
    unfold wM_heap
    exact setM_n b2 hx (y0 ⟨rfl, hR⟩)
/-- how many of a kind there are below n -/
def ctn (p : Nat → Bool) : Nat → Nat
  | 0 => 0
  | n + 1 => ctn p n + (if p n then 1 else 0)
theorem manyX {P : Int32 → Prop} {n k : Nat} {lt : Nat → Nat → Bool} {c : Nat → Nat} {wt : Nat → Int32} {tc cl : Int32} {tr : Int64} {g : Sg} (A : AS n k lt c wt) (R : RX n k lt c wt tc cl g) (h : P (nI (ctn (hpb n lt) (2 ^ n)))) : wX_many P tc cl tr g := by
  have hp := pw8 A.2.1
  refine Lp2_up (fun i x1 x2 => x2 = nI i ∧ x1 = nI (ctn (hpb n lt) i)) (2 ^ n) ?_ 0 0 0 (Nat.zero_le _) ⟨rfl, rfl⟩
  rintro i x1 x2 hi ⟨rfl, rfl⟩ B hB
  unfold wX_many_b4
  refine scX R.1 A.2.1 (br_le (by omega) (by omega) (fun q => ?_) (fun hlt => ?_))
  · rw [show i = 2 ^ n by omega]; exact h
  · refine hX A R (by omega) (fun H => z1 ?_) (fun H => z0 ?_)
    · exact hB _ _ hlt ⟨nI_1 i, by rw [nI_1, ctn, hpb_t.mpr H]; rfl⟩
    · exact hB _ _ hlt ⟨nI_1 i, by rw [ctn, hpb_f.mpr H]; rfl⟩
theorem manyM {P : Int32 → Prop} {n k : Nat} {lt : Nat → Nat → Bool} {c : Nat → Nat} {wt : Nat → Int32} {tc cl : Int32} {tr : Int64} {g : Sg} (A : AS n k lt c wt) (R : RM n k lt c wt tc cl g) (h : P (nI (ctn (hpb n lt) (2 ^ n)))) : wM_many P tc cl tr g := by
  have hp := pw8 A.2.1
  refine Lp2_up (fun i x1 x2 => x2 = nI i ∧ x1 = nI (ctn (hpb n lt) i)) (2 ^ n) ?_ 0 0 0 (Nat.zero_le _) ⟨rfl, rfl⟩
  rintro i x1 x2 hi ⟨rfl, rfl⟩ B hB
  unfold wM_many_b4 wM_many_j28
  rw [R.1, sh1 n (by have := A.2.1; omega)]
  refine br_le (by omega) (by omega) (fun q => ?_) (fun hlt => ?_)
  · rw [show i = 2 ^ n by omega]; exact h
  · rw [← R.1]
    refine hM A R (by omega) (fun H => z1 (fun x1 e1 => ?_)) (fun H => z0 (fun x1 e1 => ?_))
    · exact hB _ _ hlt ⟨nI_1 i, by rw [e1, nI_1, ctn, hpb_t.mpr H]; rfl⟩
    · refine hB _ _ hlt ⟨nI_1 i, by rw [e1, ctn, hpb_f.mpr H, show (0 : Int32) = nI 0 from rfl, nI_add]; rfl⟩
theorem st_many : Step_many Rel := by
  intro tc cl tr g tc' cl' tr' g' hR
  obtain ⟨n, k, lt, c, wt, A, X, M, e⟩ := id hR
  exact manyX A X (manyM A M ⟨rfl, hR⟩)
/-- a flip -/
noncomputable def fl (n : Nat) (lt : Nat → Nat → Bool) (S i : Nat) : Nat := if hpb n lt (S ^^^ 2 ^ i) then S ^^^ 2 ^ i else S
theorem xor_bit (S i j : Nat) : (S ^^^ 2 ^ i).testBit j = (S.testBit j ^^ decide (i = j)) := by
  rw [Nat.testBit_xor, Nat.testBit_two_pow]
theorem xor_lt {S n i : Nat} (hS : S < 2 ^ n) (hi : i < n) : S ^^^ 2 ^ i < 2 ^ n := Nat.xor_lt_two_pow hS (Nat.pow_lt_pow_right (by decide) hi)
theorem fl_hp {n : Nat} {lt : Nat → Nat → Bool} {S i : Nat} (H : Hp n lt S) : Hp n lt (fl n lt S i) := by
  unfold fl
  split
  · next h => exact hpb_t.mp h
  · exact H
/-- a thing goes in or out: what the flip asks of the order -/
theorem fl_out {n : Nat} {lt : Nat → Nat → Bool} {S i : Nat} (hO : Or8 n lt) (H : Hp n lt S) (hi : i < n) (hb : S.testBit i = true) : Hp n lt (S ^^^ 2 ^ i) ↔ ∀ j, lt i j = true → S.testBit j = false := by
  constructor
  · intro h j hj
    cases hs : S.testBit j with
    | false => rfl
    | true =>
      have hij : i ≠ j := by have := hO.1 i j hj; omega
      have h2 := h.2 i j hj (by rw [xor_bit, hs]; simp [hij])
      rw [xor_bit, hb] at h2
      simp at h2
  · intro h
    refine ⟨xor_lt H.1 hi, fun a b hab hb2 => ?_⟩
    rw [xor_bit] at hb2 ⊢
    have hab' := hO.1 a b hab
    by_cases hib : i = b
    · subst hib; rw [hb] at hb2; simp at hb2
    · simp only [hib, decide_false, Bool.bne_false] at hb2
      have ha := H.2 a b hab hb2
      by_cases hia : i = a
      · subst hia; rw [h b hab] at hb2; cases hb2
      · simp [hia, ha]
theorem fl_in {n : Nat} {lt : Nat → Nat → Bool} {S i : Nat} (hO : Or8 n lt) (H : Hp n lt S) (hi : i < n) (hb : S.testBit i = false) : Hp n lt (S ^^^ 2 ^ i) ↔ ∀ j, lt j i = true → S.testBit j = true := by
  constructor
  · intro h j hj
    have hij : i ≠ j := by have := hO.1 j i hj; omega
    have h2 := h.2 j i hj (by rw [xor_bit, hb]; simp)
    rw [xor_bit] at h2
    simpa [hij] using h2
  · intro h
    refine ⟨xor_lt H.1 hi, fun a b hab hb2 => ?_⟩
    rw [xor_bit] at hb2 ⊢
    have hab' := hO.1 a b hab
    by_cases hib : i = b
    · subst hib
      have : i ≠ a := by omega
      simp [this, h a hab]
    · simp only [hib, decide_false, Bool.bne_false] at hb2
      have ha := H.2 a b hab hb2
      by_cases hia : i = a
      · subst hia; rw [hb] at ha; cases ha
      · simp [hia, ha]
theorem flX {P : Int32 → Prop} {n k : Nat} {lt : Nat → Nat → Bool} {c : Nat → Nat} {wt : Nat → Int32} {tc cl : Int32} {tr : Int64} {g : Sg} (A : AS n k lt c wt) (R : RX n k lt c wt tc cl g) {S i : Nat} (H : Hp n lt S) (hi : i < n) (h : P (nI (fl n lt S i))) : wX_flipped P tc cl tr g (nI S) (nI i) := by
  obtain ⟨b1, b2, -, hO, -, -⟩ := id A
  have hp := pw8 b2
  have hS := H.1
  unfold wX_flipped wX_flipped_j29
  refine hasX (by omega) (by omega) ?_
  rw [sh1 i (by omega), fb_xorI, nI_clamp (by omega)]
  have hin : vp_in (nI i) 8 := vp_in_nI (by omega) (by decide)
  cases hb : S.testBit i with
  | false =>
    refine z0 ⟨hin, fun q => ?_, fun q => ?_⟩
    · rw [unX R (by omega) hO b2, ← fl_in hO H hi hb, ← hpb_t] at q
      simpa [fl, q] using h
    · rw [unX R (by omega) hO b2, ← fl_in hO H hi hb, ← hpb_t] at q
      simpa [fl, q] using h
  | true =>
    refine z1 ⟨hin, fun q => ?_, fun q => ?_⟩
    · rw [ovX R (by omega) hO b2, ← fl_out hO H hi hb, ← hpb_t] at q
      simpa [fl, q] using h
    · rw [ovX R (by omega) hO b2, ← fl_out hO H hi hb, ← hpb_t] at q
      simpa [fl, q] using h
theorem flM {P : Int32 → Prop} {n k : Nat} {lt : Nat → Nat → Bool} {c : Nat → Nat} {wt : Nat → Int32} {tc cl : Int32} {tr : Int64} {g : Sg} (A : AS n k lt c wt) (R : RM n k lt c wt tc cl g) {S i : Nat} (H : Hp n lt S) (hi : i < n) (h : P (nI (fl n lt S i))) : wM_flipped P tc cl tr g (nI S) (nI i) := by
  obtain ⟨b1, b2, -, hO, -, -⟩ := id A
  have hp := pw8 b2
  have hS := xor_lt H.1 hi
  unfold wM_flipped
  intro x3 e3
  rw [sh1 i (by omega), fb_xorI] at e3
  subst e3
  refine hM A R (by omega) (fun q => z1 ?_) (fun q => z0 ?_)
  · rw [← hpb_t] at q; simpa [fl, q] using h
  · rw [← hpb_f] at q; simpa [fl, q] using h
theorem st_flip : Step_flip Rel := by
  intro tc cl tr g tc' cl' tr' g' a1 a2 hR
  obtain ⟨n, k, lt, c, wt, A, X, M, e⟩ := id hR
  obtain ⟨b1, b2, -⟩ := id A
  unfold wX_flip
  by_cases h1 : ∃ S, Hp n lt S ∧ a1 = nI S
  · obtain ⟨S, H, rfl⟩ := h1
    refine hX_y A X H (z1 ?_)
    by_cases h2 : ∃ j, j < n ∧ a2 = nI j
    · obtain ⟨i, hi, rfl⟩ := h2
      refine tX_y X.1 b2 hi (y1 (flX A X H hi ?_))
      exact hM_y A M H (z1 (tM_y M.1 b2 hi (z1 (flM A M H hi ⟨rfl, hR⟩))))
    · have hx : ∀ j, j < n → a2 ≠ nI j := fun j hj q => h2 ⟨j, hj, q⟩
      exact tX_n X.1 b2 hx (y0 (hM_y A M H (z1 (tM_n M.1 b1 b2 hx (z0 ⟨rfl, hR⟩)))))
  · have hx : ∀ S, Hp n lt S → a1 ≠ nI S := fun S hS q => h1 ⟨S, hS, q⟩
    exact hX_n A X hx (z0 (hM_n A M hx (z0 ⟨rfl, hR⟩)))
