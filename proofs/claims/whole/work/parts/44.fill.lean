/-! FILLINGS: their digits, flips and turns, in ints as both classes have them. -/
def rst (H x : Int32) : Nat → Int32
  | 0 => x
  | i + 1 => rst H x i / H
def dgt (H x : Int32) (i : Nat) : Int32 := rst H x i - rst H x i / H * H
def Val (n : Nat) (lt : Nat → Nat → Bool) (H x : Int32) : Prop := ¬ x < 0 ∧ rst H x n = 0 ∧ ∀ i k, lt i k = true → ¬ dgt H x i < dgt H x k
theorem H_ne {hh : Nat} (h3 : hh ≤ 3) : ¬ nI hh + (1 : Int32) = 0 := by rw [nI_1]; exact nI_ne0 (by omega) (by omega)
theorem htX_y {P : Int32 → Prop} {q : Nat} (h1 : 1 ≤ q) (h3 : q ≤ 3) (h : P 1) : wX_isHeight P (nI q) := by
  unfold wX_isHeight
  refine br_lt (a := q) (b := 1) (by omega) (by decide) (fun u => absurd u (by omega)) (fun _ => br_lt (a := 3) (b := q) (by decide) (by omega) (fun u => absurd u (by omega)) (fun _ => h))
theorem htX_n {P : Int32 → Prop} {x : Int32} (hx : ∀ q, 1 ≤ q → q ≤ 3 → x ≠ nI q) (h : P 0) : wX_isHeight P x := by
  unfold wX_isHeight
  refine ⟨fun _ => h, fun r => ⟨fun _ => h, fun u => ?_⟩⟩
  rcases int_out (a := 1) (b := 3) (by decide) (by decide) hx with v | v
  · exact absurd v r
  · exact absurd v u
theorem htM_y {P : Int32 → Prop} {q : Nat} (h1 : 1 ≤ q) (h3 : q ≤ 3) (h : P 1) : wM_isHeight P (nI q) :=
  inY (a := 1) (b := 3) h1 h3 (by decide) ⟨Or.inr rfl, h⟩
theorem htM_n {P : Int32 → Prop} {x : Int32} (hx : ∀ q, 1 ≤ q → q ≤ 3 → x ≠ nI q) (h : P 0) : wM_isHeight P x :=
  inN (a := 1) (b := 3) (by decide) (by decide) hx ⟨Or.inl rfl, h⟩
theorem rfX {P : Int32 → Sg → Prop} {n k : Nat} {lt : Nat → Nat → Bool} {c : Nat → Nat} {wt : Nat → Int32} {tc cl : Int32} {tr : Int64} {g : Sg} (A : AS n k lt c wt) (R : RX n k lt c wt tc cl g) {hh : Nat} {x : Int32} (t1 : 1 ≤ hh) (t3 : hh ≤ 3)
    (h1 : Val n lt (nI hh + 1) x → ∀ g2 : Sg, (∀ a, a ≠ 7 → g2 a = g a) → (∀ i, i < n → g2 7 i = dgt (nI hh + 1) x i) → P 1 g2) (h0 : ¬ Val n lt (nI hh + 1) x → ∀ g2 : Sg, (∀ a, a ≠ 7 → g2 a = g a) → P 0 g2) : wX_readFilling P tc cl tr g (nI hh) x := by
  obtain ⟨b1, b2, b3, hO, -, -⟩ := id A
  have etc := R.1
  subst etc
  unfold wX_readFilling
  refine htX_y t1 t3 (z1 ⟨fun hx => ?_, fun hx => h0 (fun v => hx (Int32.not_lt.mp v.1)) g (fun _ _ => rfl)⟩)
  refine Lp3_up (fun i x3 x4 g0 => x4 = nI i ∧ x3 = rst (nI hh + 1) x i ∧ (∀ a, a ≠ 7 → g0 a = g a) ∧ ∀ j, j < i → g0 7 j = dgt (nI hh + 1) x j) n ?_ 0 x 0 g (Nat.zero_le _) ⟨rfl, rfl, fun _ _ => rfl, fun j hj => absurd hj (Nat.not_lt_zero j)⟩
  rintro i x3 x4 g0 hi ⟨rfl, rfl, hg, hd⟩ B hB
  unfold wX_readFilling_b18
  refine br_le (by omega) (by omega) (fun u => ?_) (fun hlt => ⟨H_ne t3, vp_in_nI (by omega) (by decide), fun g1 e1 => ⟨H_ne t3, fun y ey => hB _ _ _ hlt ⟨nI_1 i, ey, fun a ha => ?_, fun j hj => ?_⟩⟩⟩)
  · have ei : i = n := by omega
    subst ei
    have R0 : RX i k lt c wt (nI i) cl g0 := R.keep (fun a ha => hg a (by omega))
    refine ⟨fun v => h0 (fun w => v w.2.1) g0 hg, fun v => ?_⟩
    refine Lp1_up (fun s x1 => x1 = nI s ∧ ∀ b, b < s → ∀ a, lt a b = true → ¬ dgt (nI hh + 1) x a < dgt (nI hh + 1) x b) i ?_ 0 0 (Nat.zero_le _) ⟨rfl, fun b hb => absurd hb (Nat.not_lt_zero b)⟩
    rintro s x1 hs ⟨rfl, hI⟩ B1 hB1
    unfold wX_digitsFallUpwards_b2
    refine br_le (by omega) (by omega) (fun w => z1 (h1 ⟨Int32.not_lt.mpr hx, v, fun a b hab => ?_⟩ g0 hg hd)) (fun hlt => ?_)
    · have := hO.1 a b hab
      exact hI b (by omega) a hab
    refine Lp1_up (fun a x2 => x2 = nI a ∧ ∀ a', a' < a → lt a' s = true → ¬ dgt (nI hh + 1) x a' < dgt (nI hh + 1) x s) s ?_ 0 0 (Nat.zero_le _) ⟨rfl, fun b hb => absurd hb (Nat.not_lt_zero b)⟩
    rintro a x2 ha ⟨rfl, hJ⟩ B2 hB2
    unfold wX_digitsFallUpwards_b12
    refine br_le (by omega) (by omega) (fun w => hB1 _ hlt ⟨nI_1 s, fun b hb a' hab => ?_⟩) (fun hlt2 => ⟨vp_in_nI (by omega) (by decide), ?_⟩)
    · rcases Nat.lt_succ_iff_lt_or_eq.mp hb with z | z
      · exact hI b z a' hab
      · subst z
        have := hO.1 a' b hab
        exact hJ a' (by omega) hab
    · have hgo : (lt a s = true → ¬ dgt (nI hh + 1) x a < dgt (nI hh + 1) x s) → B2 (nI a + 1) := fun w => hB2 _ hlt2 ⟨nI_1 a, fun a' ha' hl => by
        rcases Nat.lt_succ_iff_lt_or_eq.mp ha' with z | z
        · exact hJ a' z hl
        · subst z; exact w hl⟩
      rw [nI_clamp (by omega), R0.2.2.1 s (by omega)]
      refine hasX (Nat.lt_of_lt_of_le (mkS_lt _ 8) (by decide)) (by omega) ?_
      rw [hsI (n := i) (by omega) (by omega)]
      cases hl : lt a s with
      | false => exact z0 (hgo (fun w => by rw [hl] at w; cases w))
      | true =>
        refine z1 ⟨vp_in_nI (by omega) (by decide), vp_in_nI (by omega) (by decide), ?_⟩
        rw [nI_clamp (by omega), hd s (by omega), hd a (by omega)]
        exact ⟨fun w => hgo (fun _ => Int32.not_lt.mpr w), fun w => z0 (h0 (fun vv => w (Int32.not_lt.mp (vv.2.2 a s hl))) g0 hg)⟩
  · rw [e1, up2_ne _ _ _ ha]; exact hg a ha
  · rw [nI_clamp (by omega)] at e1
    rw [e1, up2_same]
    rcases Nat.lt_succ_iff_lt_or_eq.mp hj with z | z
    · rw [upd_ne _ _ (by omega)]; exact hd j z
    · subst z; rw [upd_eq]; rfl
theorem tkM {P : Int32 → Sg → Prop} {n k : Nat} {lt : Nat → Nat → Bool} {c : Nat → Nat} {wt : Nat → Int32} {tc cl : Int32} {tr : Int64} {g : Sg} (A : AS n k lt c wt) (R : RM n k lt c wt tc cl g) {hh : Nat} {x : Int32} (t1 : 1 ≤ hh) (t3 : hh ≤ 3)
    (h1 : Val n lt (nI hh + 1) x → ∀ g2 : Sg, (∀ a, a ≠ 7 → g2 a = g a) → (∀ i, i < n → g2 7 i = dgt (nI hh + 1) x i) → P 1 g2) (h0 : ¬ Val n lt (nI hh + 1) x → ∀ g2 : Sg, (∀ a, a ≠ 7 → g2 a = g a) → P 0 g2) : wM_take P tc cl tr g (nI hh) x := by
  obtain ⟨b1, b2, b3, hO, -, -⟩ := id A
  have etc := R.1
  subst etc
  unfold wM_take
  refine Lp3_up (fun i x3 x4 g0 => x4 = nI i ∧ x3 = rst (nI hh + 1) x i ∧ (∀ a, a ≠ 7 → g0 a = g a) ∧ ∀ j, j < i → g0 7 j = dgt (nI hh + 1) x j) n ?_ 0 x 0 g (Nat.zero_le _) ⟨rfl, rfl, fun _ _ => rfl, fun j hj => absurd hj (Nat.not_lt_zero j)⟩
  rintro i x3 x4 g0 hi ⟨rfl, rfl, hg, hd⟩ B hB
  unfold wM_take_b5
  refine br_le (by omega) (by omega) (fun u => ?_) (fun hlt => ⟨H_ne t3, vp_in_nI (by omega) (by decide), fun g1 e1 => ⟨H_ne t3, fun y ey => hB _ _ _ hlt ⟨nI_1 i, ey, fun a ha => ?_, fun j hj => ?_⟩⟩⟩)
  · have ei : i = n := by omega
    subst ei
    have R0 : RM i k lt c wt (nI i) cl g0 := R.keep (fun a ha => hg a (by omega))
    have key : ∀ y0 : Int32, (y0 = 0 ∧ ¬ Val i lt (nI hh + 1) x ∨ y0 = 1 ∧ ¬ x < 0 ∧ rst (nI hh + 1) x i = 0) → wM_take_j51 P (nI i) cl tr y0 g0 := by
      intro y0 hy
      unfold wM_take_j51
      refine Lp3_up (fun s x4 x5 g1 => x5 = nI s ∧ g1 = g0 ∧ (x4 = 0 ∧ ¬ Val i lt (nI hh + 1) x ∨ x4 = 1 ∧ ¬ x < 0 ∧ rst (nI hh + 1) x i = 0 ∧ ∀ a, a < s → ∀ b, lt a b = true → ¬ dgt (nI hh + 1) x a < dgt (nI hh + 1) x b)) i ?_ 0 y0 0 g0 (Nat.zero_le _) ⟨rfl, rfl, hy.imp id (fun q => ⟨q.1, q.2.1, q.2.2, fun a ha => absurd ha (Nat.not_lt_zero a)⟩)⟩
      rintro s x4 x5 g1 hs ⟨rfl, rfl, hI⟩ B1 hB1
      unfold wM_take_b56
      refine br_le (by omega) (by omega) (fun w => ?_) (fun hlt x6 e6 => ?_)
      · rcases hI with ⟨rfl, hI⟩ | ⟨rfl, q1, q2, q3⟩
        · exact ⟨Or.inl rfl, h0 hI g1 hg⟩
        · refine ⟨Or.inr rfl, h1 ⟨q1, q2, fun a b hab => ?_⟩ g1 hg hd⟩
          have := hO.1 a b hab
          exact q3 a (by omega) b hab
      rw [nI_1] at e6
      subst e6
      refine Lp3_up (fun b x4 x6 g2 => x6 = nI b ∧ s + 1 ≤ b ∧ g2 = g1 ∧ (x4 = 0 ∧ ¬ Val i lt (nI hh + 1) x ∨ x4 = 1 ∧ ¬ x < 0 ∧ rst (nI hh + 1) x i = 0 ∧ (∀ a, a < s → ∀ b, lt a b = true → ¬ dgt (nI hh + 1) x a < dgt (nI hh + 1) x b) ∧ ∀ b', b' < b → lt s b' = true → ¬ dgt (nI hh + 1) x s < dgt (nI hh + 1) x b')) i ?_ (s + 1) x4 (nI (s + 1)) g1 (by omega) ⟨rfl, Nat.le_refl _, rfl, hI.imp id (fun q => ⟨q.1, q.2.1, q.2.2.1, q.2.2.2, fun b' hb' hl => ?_⟩)⟩
      · rintro b x4 x6 g2 hb ⟨rfl, hsb, rfl, hJ⟩ B2 hB2
        unfold wM_take_b71 wM_take_j122 wM_take_j118
        refine br_le (by omega) (by omega) (fun w => hB1 _ _ _ hlt ⟨nI_1 s, rfl, hJ.imp id (fun q => ⟨q.1, q.2.1, q.2.2.1, fun a ha b' hab => ?_⟩)⟩) (fun hlt2 => ?_)
        · rcases Nat.lt_succ_iff_lt_or_eq.mp ha with z | z
          · exact q.2.2.2.1 a z b' hab
          · subst z
            have := hO.1 a b' hab
            exact q.2.2.2.2 b' (by omega) hab
        · have g0' : ¬ Val i lt (nI hh + 1) x → B2 0 (nI b + 1) g2 := fun q => hB2 _ _ _ hlt2 ⟨nI_1 b, by omega, rfl, Or.inl ⟨rfl, q⟩⟩
          rcases hJ with ⟨rfl, hJ⟩ | ⟨rfl, q1, q2, q3, q4⟩
          · exact z0 (g0' hJ)
          have hgo : (lt s b = true → ¬ dgt (nI hh + 1) x s < dgt (nI hh + 1) x b) → B2 1 (nI b + 1) g2 := fun w => hB2 _ _ _ hlt2 ⟨nI_1 b, by omega, rfl, Or.inr ⟨rfl, q1, q2, q3, fun b' hb' hl => by
            rcases Nat.lt_succ_iff_lt_or_eq.mp hb' with z | z
            · exact q4 b' z hl
            · subst z; exact w hl⟩⟩
          refine z1 ⟨inM (by omega) (by omega), brM R0 (by omega) (by omega) (fun hl => hgo (fun w => by rw [hl] at w; cases w)) (fun hl => ⟨vp_in_nI (by omega) (by decide), vp_in_nI (by omega) (by decide), ?_⟩)⟩
          rw [nI_clamp (by omega), nI_clamp (by omega), hd s (by omega), hd b (by omega)]
          exact ⟨fun w => g0' (fun vv => vv.2.2 s b hl w), fun w => hgo (fun _ => w)⟩
      · have := hO.1 s b' hl; omega
    unfold wM_take_j50
    refine ⟨fun v => key 0 (Or.inl ⟨rfl, fun w => v w.2.1⟩), fun v => ⟨fun w => key 0 (Or.inl ⟨rfl, fun z => z.1 w⟩), fun w => key 1 (Or.inr ⟨rfl, w, v⟩)⟩⟩
  · rw [e1, up2_ne _ _ _ ha]; exact hg a ha
  · rw [nI_clamp (by omega)] at e1
    rw [e1, up2_same]
    rcases Nat.lt_succ_iff_lt_or_eq.mp hj with z | z
    · rw [upd_ne _ _ (by omega)]; exact hd j z
    · subst z; rw [upd_eq]; rfl
/-- a flip of a filling -/
def flo (lt : Nat → Nat → Bool) (h : Int32) (d : Nat → Int32) (i : Nat) : Nat → Int32
  | 0 => h
  | j + 1 => if lt j i then (if d j < flo lt h d i j then d j else flo lt h d i j) else flo lt h d i j
def fhi (lt : Nat → Nat → Bool) (d : Nat → Int32) (i : Nat) : Nat → Int32
  | 0 => 0
  | j + 1 => if lt i j then (if fhi lt d i j < d j then d j else fhi lt d i j) else fhi lt d i j
def bnd (n : Nat) (lt : Nat → Nat → Bool) (h : Int32) (d : Nat → Int32) (i : Nat) : Nat → Int32 := fun j => if j = i then flo lt h d i n + fhi lt d i n - d i else d j
theorem fdX {P : Sg → Prop} {n k : Nat} {lt : Nat → Nat → Bool} {c : Nat → Nat} {wt : Nat → Int32} {tc cl : Int32} {tr : Int64} {g : Sg} (A : AS n k lt c wt) (R : RX n k lt c wt tc cl g) {h : Int32} {i : Nat} {d : Nat → Int32} (hi : i < n) (hd : ∀ j, j < n → g 7 j = d j)
    (hh : ∀ g2 : Sg, (∀ a, a ≠ 7 → g2 a = g a) → (∀ j, j < n → g2 7 j = bnd n lt h d i j) → P g2) : wX_flipDigit P tc cl tr g h (nI i) := by
  obtain ⟨b1, b2, b3, hO, -, -⟩ := id A
  have etc := R.1
  subst etc
  unfold wX_flipDigit
  refine Lp4_up (fun j x3 x4 x5 g0 => x5 = nI j ∧ x3 = flo lt h d i j ∧ x4 = fhi lt d i j ∧ g0 = g) n ?_ 0 h 0 0 g (Nat.zero_le _) ⟨rfl, rfl, rfl, rfl⟩
  rintro j x3 x4 x5 g0 hj ⟨rfl, rfl, rfl, rfl⟩ B hB
  unfold wX_flipDigit_b8 wX_flipDigit_j43
  have hini : vp_in (nI i) 8 := vp_in_nI (by omega) (by decide)
  refine br_le (by omega) (by omega) (fun u => ⟨hini, hini, fun g8 e8 => hh g8 (fun a ha => by rw [e8, up2_ne _ _ _ ha]) (fun a ha => ?_)⟩) (fun hlt => ⟨hini, ?_⟩)
  · rw [nI_clamp (by omega), hd i hi] at e8
    rw [e8, up2_same, show j = n by omega]
    unfold bnd
    by_cases hai : a = i
    · subst hai; rw [upd_eq]; simp
    · rw [upd_ne _ _ hai, hd a ha]; simp [hai]
  · rw [nI_clamp (by omega), nI_clamp (by omega), R.2.2.1 i (by omega), R.2.2.2.1 i (by omega), hd j hlt]
    have hb3 : (mkS (fun a => lt a i) 8).testBit j = lt j i := by rw [mkS_bit]; simp [show j < 8 by omega]
    have hb4 : (mkS (fun a => lt i a) 8).testBit j = lt i j := by rw [mkS_bit]; simp [show j < 8 by omega]
    have key : ∀ y : Int32, y = flo lt h d i (j + 1) → vp_in (nI i) 8 ∧ wX_has (fun r_1 => ((r_1 = 0 → (B y (fhi lt d i j) (nI j + 1) g0)) ∧ (¬ r_1 = 0 → (vp_in (nI j) 8 ∧ (∀ x4_2 : Int32, x4_2 = (if fhi lt d i j < d j then d j else fhi lt d i j) → (B y x4_2 (nI j + 1) g0)))))) (nI (mkS (fun a => lt i a) 8)) (nI j) := by
      intro y ey
      refine ⟨hini, hasX (Nat.lt_of_lt_of_le (mkS_lt _ 8) (by decide)) (by omega) ?_⟩
      rw [hb4]
      cases hl : lt i j with
      | false => exact z0 (hB _ _ _ _ hlt ⟨nI_1 j, ey, by rw [fhi, hl]; rfl, rfl⟩)
      | true => exact z1 ⟨vp_in_nI (by omega) (by decide), fun z ez => hB _ _ _ _ hlt ⟨nI_1 j, ey, by rw [ez, fhi, hl]; rfl, rfl⟩⟩
    refine hasX (Nat.lt_of_lt_of_le (mkS_lt _ 8) (by decide)) (by omega) ?_
    rw [hb3]
    cases hl : lt j i with
    | false => exact z0 (key _ (by rw [flo, hl]; rfl))
    | true => exact z1 ⟨vp_in_nI (by omega) (by decide), fun z ez => key z (by rw [ez, flo, hl]; rfl)⟩
theorem bdM {P : Sg → Prop} {n k : Nat} {lt : Nat → Nat → Bool} {c : Nat → Nat} {wt : Nat → Int32} {tc cl : Int32} {tr : Int64} {g : Sg} (A : AS n k lt c wt) (R : RM n k lt c wt tc cl g) {h : Int32} {i : Nat} {d : Nat → Int32} (hi : i < n) (hd : ∀ j, j < n → g 7 j = d j)
    (hh : ∀ g2 : Sg, (∀ a, a ≠ 7 → g2 a = g a) → (∀ j, j < n → g2 7 j = bnd n lt h d i j) → P g2) : wM_bends P tc cl tr g h (nI i) := by
  obtain ⟨b1, b2, b3, hO, -, -⟩ := id A
  have etc := R.1
  subst etc
  unfold wM_bends
  refine Lp4_up (fun j x3 x4 x5 g0 => x5 = nI j ∧ x3 = flo lt h d i j ∧ x4 = fhi lt d i j ∧ g0 = g) n ?_ 0 h 0 0 g (Nat.zero_le _) ⟨rfl, rfl, rfl, rfl⟩
  rintro j x3 x4 x5 g0 hj ⟨rfl, rfl, rfl, rfl⟩ B hB
  unfold wM_bends_b8 wM_bends_j53 wM_bends_j54
  have hini : vp_in (nI i) 8 := vp_in_nI (by omega) (by decide)
  refine br_le (by omega) (by omega) (fun u => ⟨hini, hini, fun g8 e8 => hh g8 (fun a ha => by rw [e8, up2_ne _ _ _ ha]) (fun a ha => ?_)⟩) (fun hlt => ⟨inM (by omega) (by omega), ?_⟩)
  · rw [nI_clamp (by omega), hd i hi] at e8
    rw [e8, up2_same, show j = n by omega]
    unfold bnd
    by_cases hai : a = i
    · subst hai; rw [upd_eq]; simp
    · rw [upd_ne _ _ hai, hd a ha]; simp [hai]
  · rw [nI_clamp (show j < 2 ^ 31 by omega), hd j hlt]
    have hinj : vp_in (nI j) 8 := vp_in_nI (by omega) (by decide)
    have key : ∀ y : Int32, y = flo lt h d i (j + 1) → vp_in ((8 : Int32) * nI i + nI j) 64 ∧ ((g0 1 ((8 : Int32) * nI i + nI j).toNatClampNeg = 0 → B y (fhi lt d i j) (nI j + 1) g0) ∧ (¬ g0 1 ((8 : Int32) * nI i + nI j).toNatClampNeg = 0 → (vp_in (nI j) 8 ∧ ((d j ≤ fhi lt d i j → B y (fhi lt d i j) (nI j + 1) g0) ∧ (¬ d j ≤ fhi lt d i j → (vp_in (nI j) 8 ∧ (∀ x4_1 : Int32, x4_1 = d j → B y x4_1 (nI j + 1) g0))))))) := by
      intro y ey
      refine ⟨inM (by omega) (by omega), brM R (by omega) (by omega) (fun hl => hB _ _ _ _ hlt ⟨nI_1 j, ey, by rw [fhi, hl]; rfl, rfl⟩) (fun hl => ⟨hinj, fun w => hB _ _ _ _ hlt ⟨nI_1 j, ey, ?_, rfl⟩, fun w => ⟨hinj, fun z ez => hB _ _ _ _ hlt ⟨nI_1 j, ey, ?_, rfl⟩⟩⟩)⟩
      · rw [fhi, hl]; simp [Int32.not_lt.mpr w]
      · rw [ez, fhi, hl]; simp [Int32.not_le.mp w]
    refine brM R (by omega) (by omega) (fun hl => key _ (by rw [flo, hl]; rfl)) (fun hl => ⟨hinj, fun w => key _ ?_, fun w => ⟨hinj, key _ ?_⟩⟩)
    · rw [flo, hl]; simp [Int32.not_lt.mpr w]
    · rw [flo, hl]; simp [Int32.not_le.mp w]
/-- the number of digits d -/
def nbd (H : Int32) (n : Nat) (d : Nat → Int32) : Nat → Int32
  | 0 => 0
  | i + 1 => nbd H n d i * H + d (n - 1 - i)
theorem ndX {P : Int32 → Prop} {n k : Nat} {lt : Nat → Nat → Bool} {c : Nat → Nat} {wt : Nat → Int32} {tc cl : Int32} {tr : Int64} {g : Sg} (A : AS n k lt c wt) (R : RX n k lt c wt tc cl g) {h : Int32} {d : Nat → Int32} (hd : ∀ j, j < n → g 7 j = d j) (hh : P (nbd (h + 1) n d n)) : wX_numberOfDigits P tc cl tr g h := by
  obtain ⟨b1, b2, b3, hO, -, -⟩ := id A
  have etc := R.1
  subst etc
  unfold wX_numberOfDigits
  intro x3 e3
  refine Lp2_up (fun i x2 x3 => x3 = nI (n - i) - 1 ∧ x2 = nbd (h + 1) n d i) n ?_ 0 0 x3 (Nat.zero_le _) ⟨e3, rfl⟩
  rintro i x2 x3 hi ⟨rfl, rfl⟩ B hB
  unfold wX_numberOfDigits_b9
  rcases Nat.lt_or_ge i n with hlt | hge
  · obtain ⟨m, hm⟩ : ∃ m, n - i = m + 1 := ⟨n - i - 1, by omega⟩
    rw [hm]
    refine ⟨fun u => absurd u (dn_pos (by omega)), fun _ => ⟨?_, fun y ey => ?_⟩⟩
    · rw [nI_pred]; exact vp_in_nI (by omega) (by decide)
    · refine hB _ _ hlt ⟨by rw [dn_step, show n - (i + 1) = m by omega], ?_⟩
      rw [ey, nI_pred, nI_clamp (by omega), hd m (by omega), nbd, show n - 1 - i = m by omega]
  · have ei : i = n := by omega
    subst ei
    rw [Nat.sub_self]
    exact ⟨fun _ => hh, fun u => absurd dn_neg u⟩
theorem ndM {P : Int32 → Prop} {n k : Nat} {lt : Nat → Nat → Bool} {c : Nat → Nat} {wt : Nat → Int32} {tc cl : Int32} {tr : Int64} {g : Sg} (A : AS n k lt c wt) (R : RM n k lt c wt tc cl g) {h : Int32} {d : Nat → Int32} (hd : ∀ j, j < n → g 7 j = d j) (hh : P (nbd (h + 1) n d n)) : wM_number P tc cl tr g h := by
  obtain ⟨b1, b2, b3, hO, -, -⟩ := id A
  have etc := R.1
  subst etc
  unfold wM_number
  intro x3 e3
  refine Lp2_up (fun i x2 x3 => x3 = nI (n - i) - 1 ∧ x2 = nbd (h + 1) n d i) n ?_ 0 0 x3 (Nat.zero_le _) ⟨e3, rfl⟩
  rintro i x2 x3 hi ⟨rfl, rfl⟩ B hB
  unfold wM_number_b9
  rcases Nat.lt_or_ge i n with hlt | hge
  · obtain ⟨m, hm⟩ : ∃ m, n - i = m + 1 := ⟨n - i - 1, by omega⟩
    rw [hm]
    refine ⟨fun u => absurd u (dn_pos (by omega)), fun _ => ⟨?_, fun y ey => ?_⟩⟩
    · rw [nI_pred]; exact vp_in_nI (by omega) (by decide)
    · refine hB _ _ hlt ⟨by rw [dn_step, show n - (i + 1) = m by omega], ?_⟩
      rw [ey, nI_pred, nI_clamp (by omega), hd m (by omega), nbd, show n - 1 - i = m by omega, Int32.mul_comm]
  · have ei : i = n := by omega
    subst ei
    rw [Nat.sub_self]
    exact ⟨fun _ => hh, fun u => absurd dn_neg u⟩
