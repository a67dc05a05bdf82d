/-! STEPS, the short ones. -/
theorem mkS_cong {p q : Nat → Bool} : ∀ {m : Nat}, (∀ i, i < m → p i = q i) → mkS p m = mkS q m := by
  intro m h
  apply Nat.eq_of_testBit_eq
  intro i
  rw [mkS_bit, mkS_bit]
  by_cases hi : i < m
  · rw [h i hi]
  · simp [hi]
theorem mkS_none (m : Nat) : mkS (fun _ => false) m = 0 := by
  apply Nat.eq_of_testBit_eq
  intro i
  rw [mkS_bit]
  simp
theorem nar0 : vp_nar .boolean (0 : Int32) = 0 := by decide
theorem nar1 : vp_nar .boolean (1 : Int32) = 1 := by decide
theorem thX_y {P : Int32 → Int32 → Int32 → Int64 → Sg → Prop} {tc cl : Int32} {tr : Int64} {g : Sg} {m : Nat} (h1 : 1 ≤ m) (h8 : m ≤ 8)
    (h : ∀ g2 : Sg, (∀ i, i < 8 → g2 3 i = 0 ∧ g2 4 i = 0 ∧ g2 5 i = 0) → P tc (nI m) 0 tr g2) : wX_things P tc cl tr g (nI m) := by
  unfold wX_things
  refine br_lt (a := m) (b := 1) (by omega) (by omega) (fun q => absurd q (by omega)) (fun _ => ?_)
  refine br_le (a := m) (b := 8) (by omega) (by omega) (fun _ => ?_) (fun q => absurd q (by omega))
  refine Lp5_up (fun i x3 tc0 cl0 tr0 g0 => x3 = nI i ∧ tc0 = tc ∧ cl0 = cl ∧ tr0 = tr ∧ ∀ j, j < i → g0 3 j = 0 ∧ g0 4 j = 0 ∧ g0 5 j = 0) 8 ?_ 0 0 tc cl tr g (Nat.zero_le _) ⟨rfl, rfl, rfl, rfl, fun j hj => absurd hj (Nat.not_lt_zero j)⟩
  rintro i x3 tc0 cl0 tr0 g0 hi ⟨rfl, rfl, rfl, rfl, hI⟩ B hB
  unfold wX_things_b20
  refine br_le (a := 8) (b := i) (by omega) (by omega) (fun q => ?_) (fun hlt => ?_)
  · exact h g0 (fun j hj => hI j (by omega))
  have hin : vp_in (nI i) 8 := vp_in_nI hlt (by decide)
  refine ⟨hin, fun g1 e1 => ⟨hin, fun g2 e2 => ⟨hin, fun g3 e3 => ?_⟩⟩⟩
  refine hB _ _ _ _ _ hlt ⟨nI_1 i, rfl, rfl, rfl, fun j hj => ?_⟩
  rw [nI_clamp (by omega)] at e1 e2 e3
  subst e3 e2 e1
  simp only [up2_same, up2_ne _ _ _ (show (3 : Nat) ≠ 5 by decide), up2_ne _ _ _ (show (3 : Nat) ≠ 4 by decide), up2_ne _ _ _ (show (4 : Nat) ≠ 5 by decide), up2_ne _ _ _ (show (5 : Nat) ≠ 4 by decide), up2_ne _ _ _ (show (5 : Nat) ≠ 3 by decide), up2_ne _ _ _ (show (4 : Nat) ≠ 3 by decide)]
  rcases Nat.lt_succ_iff_lt_or_eq.mp hj with r | r
  · rw [upd_ne _ _ (by omega), upd_ne _ _ (by omega), upd_ne _ _ (by omega)]
    exact hI j r
  · subst r
    rw [upd_eq, upd_eq, upd_eq]
    exact ⟨rfl, rfl, rfl⟩
theorem int_out {x : Int32} {a b : Nat} (hb : b < 2 ^ 31 - 1) (ha : a < 2 ^ 31) (hx : ∀ i, a ≤ i → i ≤ b → x ≠ nI i) : x < nI a ∨ nI b < x := by
  rcases i_cases x (b + 1) (by omega) with ⟨j, hj, e⟩ | u
  · subst e
    rcases Nat.lt_or_ge j a with w | w
    · exact Or.inl (nI_lt w ha)
    · exact absurd rfl (hx j w (by omega))
  · rcases u with u | u
    · refine Or.inl ?_
      rw [Int32.lt_iff_toInt_lt] at u ⊢
      rw [nI_toInt (by omega)]
      have : (0 : Int32).toInt = 0 := by decide
      omega
    · refine Or.inr ?_
      rw [Int32.lt_iff_toInt_lt]
      rw [Int32.le_iff_toInt_le] at u
      rw [nI_toInt (by omega)] at u ⊢
      omega
theorem thX_n {P : Int32 → Int32 → Int32 → Int64 → Sg → Prop} {tc cl : Int32} {tr : Int64} {g : Sg} {x : Int32} (hx : ∀ i, 1 ≤ i → i ≤ 8 → x ≠ nI i) (h : P (-1) tc cl tr g) : wX_things P tc cl tr g x := by
  unfold wX_things
  refine ⟨fun _ => h, fun q => ⟨fun r => ?_, fun _ => h⟩⟩
  rcases int_out (a := 1) (b := 8) (by decide) (by decide) hx with u | u
  · exact absurd u q
  · exact absurd r (Int32.not_le.mpr u)
theorem thM_y {P : Int32 → Int32 → Int32 → Int64 → Sg → Prop} {tc cl : Int32} {tr : Int64} {g : Sg} {m : Nat} (h1 : 1 ≤ m) (h8 : m ≤ 8)
    (h : ∀ g2 : Sg, (∀ i, i < 64 → g2 1 i = 0) → (∀ i, i < 8 → g2 2 i = 0) → P tc (nI m) 0 tr g2) : wM_things P tc cl tr g (nI m) := by
  unfold wM_things
  refine inY (a := 1) (b := 8) h1 h8 (by decide) (y1 ?_)
  refine Lp5_up (fun i x3 tc0 cl0 tr0 g0 => x3 = nI i ∧ tc0 = nI m ∧ cl0 = 0 ∧ tr0 = tr ∧ ∀ j, j < i → g0 1 j = 0) 64 ?_ 0 0 (nI m) 0 tr g (Nat.zero_le _) ⟨rfl, rfl, rfl, rfl, fun j hj => absurd hj (Nat.not_lt_zero j)⟩
  rintro i x3 tc0 cl0 tr0 g0 hi ⟨rfl, rfl, rfl, rfl, hI⟩ B hB
  unfold wM_things_b29
  refine br_le (a := 64) (b := i) (by omega) (by omega) (fun q => ?_) (fun hlt => ?_)
  · refine Lp5_up (fun i x3 tc0 cl0 tr1 g1 => x3 = nI i ∧ tc0 = nI m ∧ cl0 = 0 ∧ tr1 = tr0 ∧ (∀ j, j < 64 → g1 1 j = 0) ∧ ∀ j, j < i → g1 2 j = 0) 8 ?_ 0 0 (nI m) 0 tr0 g0 (Nat.zero_le _) ⟨rfl, rfl, rfl, rfl, fun j hj => hI j (by omega), fun j hj => absurd hj (Nat.not_lt_zero j)⟩
    rintro i x3 tc0 cl0 tr1 g1 hi ⟨rfl, rfl, rfl, rfl, hI1, hI2⟩ B hB
    unfold wM_things_b50
    refine br_le (a := 8) (b := i) (by omega) (by omega) (fun q => h g1 hI1 (fun j hj => hI2 j (by omega))) (fun hlt => ?_)
    refine ⟨vp_in_nI hlt (by decide), fun g2 e2 => hB _ _ _ _ _ hlt ⟨nI_1 i, rfl, rfl, rfl, ?_, fun j hj => ?_⟩⟩
    · rw [e2, up2_ne _ _ _ (by decide)]; exact hI1
    · rw [nI_clamp (by omega)] at e2
      rw [e2, up2_same]
      rcases Nat.lt_succ_iff_lt_or_eq.mp hj with r | r
      · rw [upd_ne _ _ (by omega)]; exact hI2 j r
      · subst r; rw [upd_eq]
  · refine ⟨vp_in_nI hlt (by decide), fun g2 e2 => hB _ _ _ _ _ hlt ⟨nI_1 i, rfl, rfl, rfl, fun j hj => ?_⟩⟩
    rw [nI_clamp (by omega), nar0] at e2
    rw [e2, up2_same]
    rcases Nat.lt_succ_iff_lt_or_eq.mp hj with r | r
    · rw [upd_ne _ _ (by omega)]; exact hI j r
    · subst r; rw [upd_eq]
theorem thM_n {P : Int32 → Int32 → Int32 → Int64 → Sg → Prop} {tc cl : Int32} {tr : Int64} {g : Sg} {x : Int32} (hx : ∀ i, 1 ≤ i → i ≤ 8 → x ≠ nI i) (h : P (-1) tc cl tr g) : wM_things P tc cl tr g x := by
  unfold wM_things
  exact inN (a := 1) (b := 8) (by decide) (by decide) hx (y0 h)
theorem st_things : Step_things Rel := by
  intro tc cl tr g tc' cl' tr' g' a1 hR
  obtain ⟨n, k, lt, c, wt, A, X, M, e⟩ := id hR
  by_cases hm : ∃ m, 1 ≤ m ∧ m ≤ 8 ∧ a1 = nI m
  · obtain ⟨m, h1, h8, rfl⟩ := hm
    refine thX_y h1 h8 (fun g2 q => thM_y h1 h8 (fun g2' q1 q2 => ⟨by rw [X.1, M.1], m, 0, fun _ _ => false, c, fun _ => 0, ?_, ?_, ?_, e⟩))
    · exact ⟨h1, h8, by omega, ⟨fun i k h => by simp at h, fun i k m h => by simp at h⟩, fun j hj => absurd hj (Nat.not_lt_zero j), fun i _ => (by decide : -9 ≤ (0 : Int32).toInt ∧ (0 : Int32).toInt ≤ 9)⟩
    · refine ⟨rfl, rfl, fun i hi => ?_, fun i hi => ?_, fun i hi => (q i hi).2.2, fun j hj => absurd hj (Nat.not_lt_zero j)⟩
      · rw [(q i hi).1, mkS_none]; rfl
      · rw [(q i hi).2.1, mkS_none]; rfl
    · refine ⟨rfl, rfl, fun i j hi hj => ?_, fun i hi => q2 i hi, fun j hj => absurd hj (Nat.not_lt_zero j)⟩
      rw [q1 _ (by omega)]; rfl
  · have hx : ∀ i, 1 ≤ i → i ≤ 8 → a1 ≠ nI i := fun i h1 h2 h3 => hm ⟨i, h1, h2, h3⟩
    exact thX_n hx (thM_n hx ⟨rfl, hR⟩)
theorem st_hush : Step_hush Rel := by
  intro tc cl tr g tc' cl' tr' g' hR
  obtain ⟨n, k, lt, c, wt, A, X, M, e⟩ := hR
  obtain ⟨b1, b2, b3, b4, b5, b6⟩ := A
  refine ⟨by rw [X.2.1, M.2.1], n, 0, lt, c, wt, ⟨b1, b2, by omega, b4, fun j hj => absurd hj (Nat.not_lt_zero j), b6⟩, ⟨X.1, rfl, X.2.2.1, X.2.2.2.1, X.2.2.2.2.1, fun j hj => absurd hj (Nat.not_lt_zero j)⟩, ⟨M.1, rfl, M.2.2.1, M.2.2.2.1, fun j hj => absurd hj (Nat.not_lt_zero j)⟩, e⟩
theorem st_trace : Step_trace Rel := by
  intro tc cl tr g tc' cl' tr' g' hR
  exact ⟨hR.choose_spec.choose_spec.choose_spec.choose_spec.choose_spec.2.2.2, hR⟩
theorem hsI {n : Nat} {lt : Nat → Nat → Bool} {i k : Nat} (hk : k < 8) (hi : i < 8) : (mkS (fun j => lt j k) 8).testBit i = lt i k := by
  rw [mkS_bit]; simp [hi]
theorem st_below : Step_below Rel := by
  intro tc cl tr g tc' cl' tr' g' a1 a2 hR
  obtain ⟨n, k, lt, c, wt, A, X, M, e⟩ := id hR
  obtain ⟨b1, b2, -⟩ := id A
  unfold wX_below
  by_cases h1 : ∃ i, i < n ∧ a1 = nI i
  · obtain ⟨i, hi, rfl⟩ := h1
    refine tX_y X.1 b2 hi (z1 ?_)
    by_cases h2 : ∃ j, j < n ∧ a2 = nI j
    · obtain ⟨j, hj, rfl⟩ := h2
      refine tX_y X.1 b2 hj (y1 ⟨vp_in_nI (by omega) (by decide), ?_⟩)
      rw [nI_clamp (by omega), X.2.2.1 j (by omega)]
      refine hasX (Nat.lt_of_lt_of_le (mkS_lt _ 8) (by decide)) (by omega) ?_
      rw [hsI (n := n) (by omega) (by omega)]
      have hM : ∀ {P : Int32 → Prop}, P (if lt i j then 1 else 0) → wM_below P tc' cl' tr' g' (nI i) (nI j) := by
        intro P hP
        refine tM_y M.1 b2 hi (z1 (tM_y M.1 b2 hj (y1 ⟨inM (by omega) (by omega), brM M (by omega) (by omega) (fun hl => ?_) (fun hl => ?_)⟩)))
        · rw [hl] at hP; exact hP
        · rw [hl] at hP; exact hP
      cases hl : lt i j with
      | false => exact z0 (hM (by rw [hl]; exact ⟨rfl, hR⟩))
      | true => exact z1 (hM (by rw [hl]; exact ⟨rfl, hR⟩))
    · have hx : ∀ j, j < n → a2 ≠ nI j := fun j hj q => h2 ⟨j, hj, q⟩
      exact tX_n X.1 b2 hx (y0 (tM_y M.1 b2 hi (z1 (tM_n M.1 b1 b2 hx (y0 ⟨rfl, hR⟩)))))
  · have hx : ∀ j, j < n → a1 ≠ nI j := fun j hj q => h1 ⟨j, hj, q⟩
    exact tX_n X.1 b2 hx (z0 (tM_n M.1 b1 b2 hx (z0 ⟨rfl, hR⟩)))
theorem st_weight : Step_weight Rel := by
  intro tc cl tr g tc' cl' tr' g' a1 a2 hR
  obtain ⟨n, k, lt, c, wt, A, X, M, e⟩ := id hR
  obtain ⟨b1, b2, b3, b4, b5, b6⟩ := id A
  unfold wX_weight
  by_cases h1 : ∃ i, i < n ∧ a1 = nI i
  · obtain ⟨i, hi, rfl⟩ := h1
    refine tX_y X.1 b2 hi (z1 ?_)
    have hin : vp_in (nI i) 8 := vp_in_nI (by omega) (by decide)
    refine ⟨fun q => ?_, fun q => ⟨fun r => ⟨hin, fun x3 e3 => ⟨hin, fun g3 eg => ?_⟩⟩, fun r => ?_⟩⟩
    · exact tM_y M.1 b2 hi (z1 (pM_in (fun u _ => absurd q u) (fun _ => y0 ⟨rfl, hR⟩)))
    · refine tM_y M.1 b2 hi (z1 (pM_in (fun _ _ => y1 ⟨hin, fun x3' e3' => ⟨hin, fun g3' eg' => ⟨?_, n, k, lt, c, fun j => if j = i then a2 else wt j, ⟨b1, b2, b3, b4, b5, fun j hj => ?_⟩, ?_, ?_, e⟩⟩⟩) (fun u => ?_)))
      · rw [e3, e3', nI_clamp (by omega), X.2.2.2.2.1 i (by omega), M.2.2.2.1 i (by omega)]
      · by_cases hji : j = i
        · simp only [hji, ↓reduceIte]
          rw [Int32.lt_iff_toInt_lt] at q
          rw [Int32.le_iff_toInt_le] at r
          have e9 : (9 : Int32).toInt = 9 := by decide
          have e8 : (-9 : Int32).toInt = -9 := by decide
          omega
        · simp only [hji, ↓reduceIte]; exact b6 j hj
      · rw [nI_clamp (by omega)] at eg
        subst eg
        refine ⟨X.1, X.2.1, ?_, ?_, fun j hj => ?_, ?_⟩
        · rw [up2_ne _ _ _ (by decide)]; exact X.2.2.1
        · rw [up2_ne _ _ _ (by decide)]; exact X.2.2.2.1
        · rw [up2_same]
          by_cases hji : j = i
          · subst hji; rw [upd_eq]; simp
          · rw [upd_ne _ _ hji]; simp only [hji, ↓reduceIte]; exact X.2.2.2.2.1 j hj
        · rw [up2_ne _ _ _ (by decide)]; exact X.2.2.2.2.2
      · rw [nI_clamp (by omega)] at eg'
        subst eg'
        refine ⟨M.1, M.2.1, ?_, fun j hj => ?_, ?_⟩
        · rw [up2_ne _ _ _ (by decide)]; exact M.2.2.1
        · rw [up2_same]
          by_cases hji : j = i
          · subst hji; rw [upd_eq]; simp
          · rw [upd_ne _ _ hji]; simp only [hji, ↓reduceIte]; exact M.2.2.2.1 j hj
        · rw [up2_ne _ _ _ (by decide)]; exact M.2.2.2.2
      · rcases u with u | u
        · exact absurd u q
        · exact absurd r (Int32.not_le.mpr u)
    · exact tM_y M.1 b2 hi (z1 (pM_in (fun _ u => absurd (Int32.not_le.mp r) u) (fun _ => y0 ⟨rfl, hR⟩)))
  · have hx : ∀ j, j < n → a1 ≠ nI j := fun j hj q => h1 ⟨j, hj, q⟩
    exact tX_n X.1 b2 hx (z0 (tM_n M.1 b1 b2 hx (z0 ⟨rfl, hR⟩)))
theorem st_say : Step_say Rel := by
  intro tc cl tr g tc' cl' tr' g' a1 hR
  obtain ⟨n, k, lt, c, wt, A, X, M, e⟩ := id hR
  obtain ⟨b1, b2, b3, b4, b5, b6⟩ := id A
  unfold wX_say
  by_cases h1 : ∃ i, i < n ∧ a1 = nI i
  · obtain ⟨i, hi, rfl⟩ := h1
    refine tX_y X.1 b2 hi (y1 ?_)
    have ecl := X.2.1
    have ecl' := M.2.1
    subst ecl ecl'
    refine br_lt (a := k) (b := 16) (by omega) (by omega) (fun hk => ⟨vp_in_nI hk (by decide), fun g2 eg cl3 ec => ?_⟩) (fun hk => ?_)
    · refine tM_y M.1 b2 hi (y1 (br_ne (a := k) (b := 16) (by omega) (by omega) (fun _ => ⟨vp_in_nI hk (by decide), fun g2' eg' cl3' ec' => ⟨by rw [ec, ec'], n, k + 1, lt, fun j => if j = k then i else c j, wt, ⟨b1, b2, by omega, b4, fun j hj => ?_, b6⟩, ?_, ?_, e⟩⟩) (fun q => absurd q (by omega))))
      · by_cases hjk : j = k
        · simp [hjk, hi]
        · simp only [hjk, ↓reduceIte]; exact b5 j (by omega)
      · rw [nI_clamp (by omega)] at eg
        subst eg
        refine ⟨X.1, by rw [ec]; exact nI_1 k, ?_, ?_, ?_, fun j hj => ?_⟩
        · rw [up2_ne _ _ _ (by decide)]; exact X.2.2.1
        · rw [up2_ne _ _ _ (by decide)]; exact X.2.2.2.1
        · rw [up2_ne _ _ _ (by decide)]; exact X.2.2.2.2.1
        · rw [up2_same]
          by_cases hjk : j = k
          · subst hjk; rw [upd_eq]; simp
          · rw [upd_ne _ _ hjk]; simp only [hjk, ↓reduceIte]; exact X.2.2.2.2.2 j (by omega)
      · rw [nI_clamp (by omega)] at eg'
        subst eg'
        refine ⟨M.1, by rw [ec']; exact nI_1 k, ?_, ?_, fun j hj => ?_⟩
        · rw [up2_ne _ _ _ (by decide)]; exact M.2.2.1
        · rw [up2_ne _ _ _ (by decide)]; exact M.2.2.2.1
        · rw [up2_same]
          by_cases hjk : j = k
          · subst hjk; rw [upd_eq]; simp
          · rw [upd_ne _ _ hjk]; simp only [hjk, ↓reduceIte]; exact M.2.2.2.2 j (by omega)
    · refine tM_y M.1 b2 hi (y1 (br_ne (a := k) (b := 16) (by omega) (by omega) (fun q => absurd q (by omega)) (fun _ => ⟨rfl, hR⟩)))
  · have hx : ∀ j, j < n → a1 ≠ nI j := fun j hj q => h1 ⟨j, hj, q⟩
    exact tX_n X.1 b2 hx (y0 (tM_n M.1 b1 b2 hx (y0 ⟨rfl, hR⟩)))
