/-! MEASURES. -/
def bcI (x0 : Int32) : Int32 :=
  (((((((x0 - ((ush x0 1) &&& 1431655765)) &&& 858993459) + ((ush (x0 - ((ush x0 1) &&& 1431655765)) 2) &&& 858993459)) + (ush (((x0 - ((ush x0 1) &&& 1431655765)) &&& 858993459) + ((ush (x0 - ((ush x0 1) &&& 1431655765)) 2) &&& 858993459)) 4)) &&& 252645135)))
def bcJ (x : Int32) : Int32 := ((x + ush x 8) + ush (x + ush x 8) 16) &&& 63
theorem bc_all : ∀ S, S < 256 → bcJ (bcI (nI S)) = nI (ctn (fun i => S.testBit i) 8) := by decide +kernel
theorem bcP {P : Int32 → Prop} {S : Nat} (hS : S < 256) (h : P (nI (ctn (fun i => S.testBit i) 8))) : wJ_bitCount P (nI S) := by
  rw [← bc_all S hS] at h
  intro x1 e1 x2 e2 x3 e3 x4 e4 x5 e5
  subst e1 e2 e3 e4 e5
  exact h
theorem ctn_cong {p q : Nat → Bool} : ∀ {n : Nat}, (∀ i, i < n → p i = q i) → ctn p n = ctn q n
  | 0, _ => rfl
  | n + 1, h => by rw [ctn, ctn, ctn_cong (fun i hi => h i (by omega)), h n (by omega)]
theorem ctn_le (p : Nat → Bool) : ∀ n, ctn p n ≤ n
  | 0 => Nat.le_refl 0
  | n + 1 => by have := ctn_le p n; rw [ctn]; split <;> omega
theorem ctn_more {p : Nat → Bool} {n : Nat} : ∀ m, (∀ i, n ≤ i → p i = false) → ctn p (n + m) = ctn p n
  | 0, _ => rfl
  | m + 1, h => by rw [← Nat.add_assoc, ctn, ctn_more m h, h (n + m) (by omega)]; rfl
theorem pc_n {n S : Nat} (hn : n ≤ 8) (hS : S < 2 ^ n) : ctn (fun i => S.testBit i) 8 = ctn (fun i => S.testBit i) n := by
  have := ctn_more (p := fun i => S.testBit i) (n := n) (8 - n) (fun i hi => by
    cases hb : S.testBit i with
    | false => rfl
    | true => exact absurd (bit_lt hS hb) (by omega))
  rw [← this]; congr 1; omega
noncomputable def edb (lt : Nat → Nat → Bool) (S i : Nat) : Bool := @decide (∀ j, lt i j = true → S.testBit j = false) (Classical.propDecidable _)
theorem edb_t {lt : Nat → Nat → Bool} {S i : Nat} : edb lt S i = true ↔ ∀ j, lt i j = true → S.testBit j = false := by unfold edb; exact @decide_eq_true_iff _ (Classical.propDecidable _)
theorem edb_f {lt : Nat → Nat → Bool} {S i : Nat} : edb lt S i = false ↔ ¬ ∀ j, lt i j = true → S.testBit j = false := by rw [← edb_t]; simp
/-- a measure of kind q, over the things below i -/
noncomputable def ms (lt : Nat → Nat → Bool) (wt : Nat → Int32) (q S : Nat) : Nat → Int32
  | 0 => 0
  | i + 1 => if S.testBit i then ms lt wt q S i + ((1 + (if q = 0 then 0 else wt i)) + (if q = 2 ∧ edb lt S i = true then 1 else 0)) else ms lt wt q S i
noncomputable def wsum (wt : Nat → Int32) (S : Nat) (a : Int32) : Nat → Int32
  | 0 => a
  | i + 1 => if S.testBit i then wsum wt S a i + wt i else wsum wt S a i
noncomputable def esum (lt : Nat → Nat → Bool) (S : Nat) (a : Int32) : Nat → Int32
  | 0 => a
  | i + 1 => if S.testBit i ∧ edb lt S i = true then esum lt S a i + 1 else esum lt S a i
theorem wsum_add (wt : Nat → Int32) (S : Nat) (a b : Int32) : ∀ i, wsum wt S (a + b) i = wsum wt S a i + b
  | 0 => rfl
  | i + 1 => by
    rw [wsum, wsum, wsum_add wt S a b i]
    split
    · rw [Int32.add_assoc, Int32.add_comm b, ← Int32.add_assoc]
    · rfl
theorem esum_add (lt : Nat → Nat → Bool) (S : Nat) (a b : Int32) : ∀ i, esum lt S (a + b) i = esum lt S a i + b
  | 0 => rfl
  | i + 1 => by
    rw [esum, esum, esum_add lt S a b i]
    split
    · rw [Int32.add_assoc, Int32.add_comm b, ← Int32.add_assoc]
    · rfl
theorem ms0 (lt : Nat → Nat → Bool) (wt : Nat → Int32) (S : Nat) : ∀ i, ms lt wt 0 S i = nI (ctn (fun j => S.testBit j) i)
  | 0 => rfl
  | i + 1 => by
    rw [ms, ctn, ms0 lt wt S i]
    cases hb : S.testBit i with
    | false => rfl
    | true =>
      simp
      rw [← nI_add]; rfl
theorem ms1 (lt : Nat → Nat → Bool) (wt : Nat → Int32) (S : Nat) : ∀ i, ms lt wt 1 S i = wsum wt S (nI (ctn (fun j => S.testBit j) i)) i
  | 0 => rfl
  | i + 1 => by
    rw [ms, ctn, ms1 lt wt S i, wsum]
    cases hb : S.testBit i with
    | false => rfl
    | true =>
      simp only [↓reduceIte, show ¬ (1 = 0) by decide, show ¬ (1 = 2 ∧ edb lt S i = true) by simp]
      rw [← nI_add, wsum_add, Int32.add_zero, Int32.add_assoc]
      rfl
theorem ms2 (lt : Nat → Nat → Bool) (wt : Nat → Int32) (S : Nat) : ∀ i, ms lt wt 2 S i = esum lt S (ms lt wt 1 S i) i
  | 0 => rfl
  | i + 1 => by
    rw [ms, ms, ms2 lt wt S i, esum]
    cases hb : S.testBit i with
    | false => simp
    | true =>
      simp only [↓reduceIte, show ¬ (1 = 0) by decide, show ¬ (2 = 0) by decide, show ¬ (1 = 2 ∧ edb lt S i = true) by simp, true_and]
      rw [Int32.add_zero, esum_add]
      split
      · simp only [Int32.add_assoc]
      · rw [Int32.add_zero]
theorem wgX {P : Int32 → Prop} {n k : Nat} {lt : Nat → Nat → Bool} {c : Nat → Nat} {wt : Nat → Int32} {tc cl : Int32} {tr : Int64} {g : Sg} (A : AS n k lt c wt) (R : RX n k lt c wt tc cl g) {S : Nat} (hS : S < 2 ^ n) (h : P (ms lt wt 1 S n)) : wX_weighed P tc cl tr g (nI S) := by
  have hp := pw8 A.2.1
  have b2 := A.2.1
  refine bcP (by omega) ?_
  rw [pc_n A.2.1 hS]
  refine Lp2_up (fun i x2 x3 => x3 = nI i ∧ x2 = wsum wt S (nI (ctn (fun j => S.testBit j) n)) i) n ?_ 0 _ 0 (Nat.zero_le _) ⟨rfl, rfl⟩
  rintro i x2 x3 hi ⟨rfl, rfl⟩ B hB
  unfold wX_weighed_b7
  rw [R.1]
  refine br_le (by omega) (by omega) (fun q => ?_) (fun hlt => ?_)
  · rw [show i = n by omega, ← ms1 lt]; exact h
  · refine hasX (by omega) (by omega) ?_
    cases hb : S.testBit i with
    | false => exact z0 (hB _ _ hlt ⟨nI_1 i, by rw [wsum, hb]; rfl⟩)
    | true =>
      refine z1 ⟨vp_in_nI (by omega) (by decide), fun x e => hB _ _ hlt ⟨nI_1 i, ?_⟩⟩
      rw [e, nI_clamp (by omega), R.2.2.2.2.1 i (by omega), wsum, hb]; rfl
theorem egX {P : Int32 → Prop} {n k : Nat} {lt : Nat → Nat → Bool} {c : Nat → Nat} {wt : Nat → Int32} {tc cl : Int32} {tr : Int64} {g : Sg} (A : AS n k lt c wt) (R : RX n k lt c wt tc cl g) {S : Nat} (hS : S < 2 ^ n) (h : P (ms lt wt 2 S n)) : wX_edged P tc cl tr g (nI S) := by
  have hp := pw8 A.2.1
  have b2 := A.2.1
  refine wgX A R hS ?_
  refine Lp2_up (fun i x2 x3 => x3 = nI i ∧ x2 = esum lt S (ms lt wt 1 S n) i) n ?_ 0 _ 0 (Nat.zero_le _) ⟨rfl, rfl⟩
  rintro i x2 x3 hi ⟨rfl, rfl⟩ B hB
  unfold wX_edged_b8
  rw [R.1]
  refine br_le (by omega) (by omega) (fun q => ?_) (fun hlt => ?_)
  · rw [show i = n by omega, ← ms2 lt]; exact h
  · refine hasX (by omega) (by omega) ?_
    rw [nI_clamp (by omega)]
    cases hb : S.testBit i with
    | false => exact z0 (hB _ _ hlt ⟨nI_1 i, by rw [esum, hb]; simp⟩)
    | true =>
      refine z1 ⟨vp_in_nI (by omega) (by decide), fun q => hB _ _ hlt ⟨nI_1 i, ?_⟩, fun q => hB _ _ hlt ⟨nI_1 i, ?_⟩⟩
      · rw [ovX R (by omega) A.2.2.2.1 b2, ← edb_f] at q
        rw [esum, hb, q]; simp
      · rw [ovX R (by omega) A.2.2.2.1 b2, ← edb_t] at q
        rw [esum, hb, q]; simp
theorem msX {P : Int32 → Prop} {n k : Nat} {lt : Nat → Nat → Bool} {c : Nat → Nat} {wt : Nat → Int32} {tc cl : Int32} {tr : Int64} {g : Sg} (A : AS n k lt c wt) (R : RX n k lt c wt tc cl g) {S q : Nat} (hS : S < 2 ^ n) (hq : q < 3) (h : P (ms lt wt q S n)) : wX_measured P tc cl tr g (nI q) (nI S) := by
  have hp := pw8 A.2.1
  unfold wX_measured
  refine br_ne (a := q) (b := 2) (by omega) (by decide) (fun r => br_ne (a := q) (b := 1) (by omega) (by decide) (fun r2 => ?_) (fun r2 => ?_)) (fun r => ?_)
  · have e0 : q = 0 := by omega
    subst e0
    refine bcP (by omega) ?_
    rw [pc_n A.2.1 hS, ← ms0 lt wt]; exact h
  · subst r2; exact wgX A R hS h
  · subst r; exact egX A R hS h
theorem msM {P : Int32 → Prop} {n k : Nat} {lt : Nat → Nat → Bool} {c : Nat → Nat} {wt : Nat → Int32} {tc cl : Int32} {tr : Int64} {g : Sg} (A : AS n k lt c wt) (R : RM n k lt c wt tc cl g) {S q : Nat} (hS : S < 2 ^ n) (hq : q < 3) (h : P (ms lt wt q S n)) : wM_measureOf P tc cl tr g (nI q) (nI S) := by
  have hp := pw8 A.2.1
  have b2 := A.2.1
  have hO := A.2.2.2.1
  refine Lp2_up (fun i x3 x4 => x4 = nI i ∧ x3 = ms lt wt q S i) n ?_ 0 0 0 (Nat.zero_le _) ⟨rfl, rfl⟩
  rintro i x3 x4 hi ⟨rfl, rfl⟩ B hB
  unfold wM_measureOf_b5
  rw [R.1]
  refine br_le (by omega) (by omega) (fun r => ?_) (fun hlt => ?_)
  · rw [show i = n by omega]; exact h
  refine hasM (by omega) (by omega) ?_
  cases hb : S.testBit i with
  | false => exact z0 (hB _ _ hlt ⟨nI_1 i, by rw [ms, hb]; rfl⟩)
  | true =>
    refine z1 ?_
    refine Lp2_up (fun j x5 x6 => x6 = nI j ∧ (x5 = 0 ∧ (¬ ∀ j, lt i j = true → S.testBit j = false) ∨ x5 = 1 ∧ ∀ a, a < j → lt i a = true → S.testBit a = false)) n ?_ 0 1 0 (Nat.zero_le _) ⟨rfl, Or.inr ⟨rfl, fun a ha => absurd ha (Nat.not_lt_zero a)⟩⟩
    rintro j x5 x6 hj ⟨rfl, hI⟩ B2 hB2
    unfold wM_measureOf_b29 wM_measureOf_j72 wM_measureOf_j68
    refine br_le (by omega) (by omega) (fun r => ?_) (fun hlt2 => ?_)
    · have hI2 : x5 = (if edb lt S i = true then 1 else 0) := by
        rcases hI with ⟨rfl, hI⟩ | ⟨rfl, hI⟩
        · rw [edb_f.mpr hI]; rfl
        · rw [edb_t.mpr (fun a ha => hI a (by have := hO.1 i a ha; omega) ha)]; rfl
      have fin : ∀ w : Int32, w = (if q = 0 then 0 else wt i) → wM_measureOf_j98 P (nI n) cl tr g B (nI q) (nI S) (nI i) x5 (ms lt wt q S i) 1 w := by
        intro w ew
        unfold wM_measureOf_j98 wM_measureOf_j113 wM_measureOf_j114
        refine br_ne (a := q) (b := 2) (by omega) (by decide) (fun r2 x e => hB _ _ hlt ⟨nI_1 i, ?_⟩) (fun r2 => ⟨fun r3 x e => hB _ _ hlt ⟨nI_1 i, ?_⟩, fun r3 x e => hB _ _ hlt ⟨nI_1 i, ?_⟩⟩)
        · rw [e, ms, hb, ew]; simp [r2]
        · rw [hI2] at r3
          have : ¬ edb lt S i = true := fun u => by rw [u] at r3; simp at r3
          rw [e, ms, hb, ew]; simp [this]
        · rw [hI2] at r3
          have : edb lt S i = true := by
            cases u : edb lt S i with
            | true => rfl
            | false => rw [u] at r3; simp at r3
          rw [e, ms, hb, ew]; simp [this, r2]
      refine br_le (a := q) (b := 0) (by omega) (by decide) (fun r2 => fin 0 (by simp [show q = 0 by omega])) (fun r2 => ⟨vp_in_nI (by omega) (by decide), fin _ ?_⟩)
      rw [nI_clamp (by omega), R.2.2.2.1 i (by omega)]
      simp [show ¬ q = 0 by omega]
    · have h0 : (¬ ∀ j, lt i j = true → S.testBit j = false) → B2 0 (nI j + 1) := fun u => hB2 _ _ hlt2 ⟨nI_1 j, Or.inl ⟨rfl, u⟩⟩
      rcases hI with ⟨rfl, hI⟩ | ⟨rfl, hI⟩
      · exact z0 (h0 hI)
      have h1 : (lt i j = true → S.testBit j = false) → B2 1 (nI j + 1) := fun u => hB2 _ _ hlt2 ⟨nI_1 j, Or.inr ⟨rfl, fun a ha hla => by
        rcases Nat.lt_succ_iff_lt_or_eq.mp ha with r | r
        · exact hI a r hla
        · subst r; exact u hla⟩⟩
      refine z1 ⟨inM (by omega) (by omega), brM R (by omega) (by omega) (fun hl => h1 (fun u => by rw [hl] at u; cases u)) (fun hl => ?_)⟩
      refine hasM (by omega) (by omega) ?_
      cases hb2 : S.testBit j with
      | false => exact y0 (h1 (fun _ => hb2))
      | true => exact y1 (h0 (fun u => by rw [u j hl] at hb2; cases hb2))
theorem mkX_y {P : Int32 → Prop} {q : Nat} (hq : q < 3) (h : P 1) : wX_isMeasureKind P (nI q) := by
  unfold wX_isMeasureKind
  exact ⟨fun r => absurd r (nI_pos (by omega)), fun _ => br_lt (a := 2) (b := q) (by decide) (by omega) (fun r => absurd r (by omega)) (fun _ => h)⟩
theorem mkX_n {P : Int32 → Prop} {x : Int32} (hx : ∀ q, q < 3 → x ≠ nI q) (h : P 0) : wX_isMeasureKind P x := by
  unfold wX_isMeasureKind
  refine ⟨fun _ => h, fun r => ⟨fun _ => h, fun u => ?_⟩⟩
  rcases int_out (a := 0) (b := 2) (by decide) (by decide) (fun i _ h2 => hx i (by omega)) with v | v
  · exact absurd v r
  · exact absurd v u
theorem st_measure : Step_measure Rel := by
  intro tc cl tr g tc' cl' tr' g' a1 a2 hR
  obtain ⟨n, k, lt, c, wt, A, X, M, e⟩ := id hR
  subst e
  unfold wX_measure
  by_cases h2 : ∃ j, j < 3 ∧ a1 = nI j
  · obtain ⟨q, hq, rfl⟩ := h2
    refine mkX_y hq (z1 ?_)
    have hM2 : ∀ {P : Int32 → Prop}, P 1 → wM_in P (nI q) 0 2 := fun hP => inY (a := 0) (b := 2) (by omega) (by omega) (by decide) hP
    by_cases h1 : ∃ S, Hp n lt S ∧ a2 = nI S
    · obtain ⟨S, H, rfl⟩ := h1
      refine hX_y A X H (y1 ?_)
      have rel : ∀ t : Int64, Rel tc cl t g tc' cl' t g' := fun t => ⟨n, k, lt, c, wt, A, X, M, rfl⟩
      rcases (show q = 0 ∨ q = 1 ∨ q = 2 by omega) with rfl | rfl | rfl
      · refine ⟨fun _ => ⟨fun _ t et => ?_, fun r => absurd (by decide) r⟩, fun r => absurd (by decide) r⟩
        refine msX A X H.1 hq (hM2 (z1 (hM_y A M H (y1 ⟨fun r => absurd rfl r, fun _ t2 et2 => msM A M H.1 hq ⟨rfl, ?_⟩⟩))))
        rw [et, et2]; exact rel _
      · refine ⟨fun r => absurd r (by decide), fun _ => ⟨fun _ t et => ?_, fun r => absurd (by decide) r⟩⟩
        refine msX A X H.1 hq (hM2 (z1 (hM_y A M H (y1 ⟨fun _ => ⟨fun r => absurd rfl r, fun _ t2 et2 => msM A M H.1 hq ⟨rfl, ?_⟩⟩, fun r => absurd r (by decide)⟩))))
        rw [et, et2]; exact rel _
      · refine ⟨fun r => absurd r (by decide), fun _ => ⟨fun r => absurd r (by decide), fun _ t et => ?_⟩⟩
        refine msX A X H.1 hq (hM2 (z1 (hM_y A M H (y1 ⟨fun _ => ⟨fun _ t2 et2 => msM A M H.1 hq ⟨rfl, ?_⟩, fun r => absurd r (by decide)⟩, fun r => absurd r (by decide)⟩))))
        rw [et, et2]; exact rel _
    · have hx : ∀ S, Hp n lt S → a2 ≠ nI S := fun S hS q => h1 ⟨S, hS, q⟩
      exact hX_n A X hx (y0 (hM2 (z1 (hM_n A M hx (y0 ⟨rfl, hR⟩)))))
  · have hx : ∀ j, j < 3 → a1 ≠ nI j := fun j hj q => h2 ⟨j, hj, q⟩
    exact mkX_n hx (z0 (inN (a := 0) (b := 2) (by decide) (by decide) (fun i _ r => hx i (by omega)) (z0 ⟨rfl, hR⟩)))
