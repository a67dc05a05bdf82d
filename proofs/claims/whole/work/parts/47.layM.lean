/-! LAY of the reference: paths by way of each thing. -/
def AR (g : Sg) (r : Nat → Nat → Bool) : Prop := ∀ a b, a < 8 → b < 8 → g 1 (8 * a + b) = if r a b then 1 else 0
theorem brA {g : Sg} {r : Nat → Nat → Bool} (R : AR g r) {i j : Nat} (hi : i < 8) (hj : j < 8) {A B : Prop} (f : r i j = false → A) (h : r i j = true → B) : (g 1 ((8 : Int32) * nI i + nI j).toNatClampNeg = 0 → A) ∧ (¬ g 1 ((8 : Int32) * nI i + nI j).toNatClampNeg = 0 → B) := by
  rw [ixN, nI_clamp (by omega), R i j hi hj]
  cases hl : r i j with
  | false => exact ⟨fun _ => f hl, fun q => absurd rfl q⟩
  | true => exact ⟨fun q => absurd q (by decide), fun _ => h hl⟩
def rup (r : Nat → Nat → Bool) (a0 b0 : Nat) (v : Bool) : Nat → Nat → Bool := fun a b => if a = a0 ∧ b = b0 then v else r a b
theorem AR_up {g g2 : Sg} {r : Nat → Nat → Bool} {a0 b0 : Nat} {v : Bool} (R : AR g r) (ha : a0 < 8) (hb : b0 < 8) (e : g2 = up2 g 1 ((8 : Int32) * nI a0 + nI b0).toNatClampNeg (vp_nar .boolean (if v then 1 else 0))) : AR g2 (rup r a0 b0 v) := by
  intro a b h1 h2
  rw [ixN, nI_clamp (by omega)] at e
  have en : vp_nar .boolean (if v then (1 : Int32) else 0) = if v then 1 else 0 := by cases v <;> decide
  rw [e, up2_same, en]
  unfold rup
  by_cases hab : a = a0 ∧ b = b0
  · obtain ⟨rfl, rfl⟩ := hab
    rw [upd_eq]; simp
  · rw [upd_ne _ _ (by omega), R a b h1 h2]; simp [hab]
/-- what holds between the turns of the outer loop -/
def GI (lt : Nat → Nat → Bool) (i k m : Nat) (r : Nat → Nat → Bool) : Prop :=
  (∀ a b, lt a b = true → r a b = true) ∧ r i k = true ∧ (∀ a b, r a b = true → ltn lt i k a b = true) ∧ (i < m → ∀ a, (a = i ∨ lt a i = true) → r a k = true) ∧ (k < m → ∀ a b, (a = i ∨ lt a i = true) → (b = k ∨ lt k b = true) → r a b = true)
theorem rup_mono {r : Nat → Nat → Bool} {a0 b0 : Nat} {v : Bool} (h : r a0 b0 = true → v = true) {a b : Nat} (hr : r a b = true) : rup r a0 b0 v a b = true := by
  unfold rup
  by_cases hab : a = a0 ∧ b = b0
  · rw [if_pos hab]; obtain ⟨rfl, rfl⟩ := hab; exact h hr
  · rw [if_neg hab]; exact hr
theorem GI_up {lt : Nat → Nat → Bool} {i k m : Nat} {r : Nat → Nat → Bool} {a0 b0 : Nat} {v : Bool} (h : GI lt i k m r) (h1 : r a0 b0 = true → v = true) (h2 : v = true → ltn lt i k a0 b0 = true) : GI lt i k m (rup r a0 b0 v) := by
  obtain ⟨g1, g2, g3, g4, g5⟩ := h
  refine ⟨fun a b q => rup_mono h1 (g1 a b q), rup_mono h1 g2, fun a b q => ?_, fun q a w => rup_mono h1 (g4 q a w), fun q a b w z => rup_mono h1 (g5 q a b w z)⟩
  unfold rup at q
  by_cases hab : a = a0 ∧ b = b0
  · rw [if_pos hab] at q; obtain ⟨rfl, rfl⟩ := hab; exact h2 q
  · rw [if_neg hab] at q; exact g3 a b q
theorem lyM {P : Int32 → Sg → Prop} {n kk : Nat} {lt : Nat → Nat → Bool} {c : Nat → Nat} {wt : Nat → Int32} {tc cl : Int32} {tr : Int64} {g : Sg} (A : AS n kk lt c wt) (R : RM n kk lt c wt tc cl g) {i k : Nat} (hik : i < k) (hk : k < n)
    (h0 : lt i k = true → P 0 g) (h1 : lt i k = false → ∀ g2 : Sg, RM n kk (ltn lt i k) c wt tc cl g2 → P 1 g2) : wM_lay P tc cl tr g (nI i) (nI k) := by
  obtain ⟨b1, b2, b3, hO, -, -⟩ := id A
  have hN := ltn_or hO hik hk
  have etc := R.1
  subst etc
  unfold wM_lay
  refine tM_y rfl b2 (by omega) (z1 (tM_y rfl b2 hk (z1 ?_)))
  refine br_lt (by omega) (by omega) (fun _ => ⟨inM (by omega) (by omega), ?_⟩) (fun u => absurd u (by omega))
  have R0 : AR g lt := fun a b ha hb => R.2.2.1 a b ha hb
  refine brA R0 (by omega) (by omega) (fun hl => ⟨inM (by omega) (by omega), fun g8 e8 => ?_⟩) (fun hl => h0 hl)
  have R8 : AR g8 (rup lt i k true) := AR_up R0 (by omega) (by omega) e8
  have hg8 : ∀ a, a ≠ 1 → g8 a = g a := fun a ha => by rw [e8, up2_ne _ _ _ ha]
  have G8 : GI lt i k 0 (rup lt i k true) := by
    refine ⟨fun a b q => rup_mono (fun _ => rfl) q, by simp [rup], fun a b q => ?_, fun q => absurd q (Nat.not_lt_zero _), fun q => absurd q (Nat.not_lt_zero _)⟩
    unfold rup at q
    rw [ltn_t]
    by_cases hab : a = i ∧ b = k
    · exact Or.inr ⟨Or.inl hab.1, Or.inl hab.2⟩
    · rw [if_neg hab] at q; exact Or.inl q
  refine Lp2_up (fun m x3 g0 => x3 = nI m ∧ (∀ a, a ≠ 1 → g0 a = g a) ∧ ∃ r, AR g0 r ∧ GI lt i k m r) n ?_ 0 0 g8 (Nat.zero_le _) ⟨rfl, hg8, _, R8, G8⟩
  rintro m x3 g0 hm ⟨rfl, hg0, r0, Ar0, G0⟩ B hB
  unfold wM_lay_b53
  refine br_le (by omega) (by omega) (fun u => h1 hl g0 ⟨rfl, R.2.1, fun a b ha hb => ?_, ?_, ?_⟩) (fun hltm => ?_)
  · rw [Ar0 a b ha hb]
    have : r0 a b = ltn lt i k a b := by
      apply bool_ext
      refine ⟨G0.2.2.1 a b, fun q => ?_⟩
      rw [ltn_t] at q
      rcases q with q | ⟨q1, q2⟩
      · exact G0.1 a b q
      · exact G0.2.2.2.2 (by omega) a b q1 q2
    rw [this]
  · rw [hg0 2 (by decide)]; exact R.2.2.2.1
  · rw [hg0 3 (by decide)]; exact R.2.2.2.2
  -- the middle loop
  refine Lp2_up (fun a0 x4 g1 => x4 = nI a0 ∧ (∀ a, a ≠ 1 → g1 a = g a) ∧ ∃ r, AR g1 r ∧ GI lt i k m r ∧ (m = i → ∀ a, a < a0 → (a = i ∨ lt a i = true) → r a k = true) ∧ (m = k → ∀ a, a < a0 → (a = i ∨ lt a i = true) → ∀ b, (b = k ∨ lt k b = true) → r a b = true)) n ?_ 0 0 g0 (Nat.zero_le _) ⟨rfl, hg0, r0, Ar0, G0, fun _ a ha => absurd ha (Nat.not_lt_zero a), fun _ a ha => absurd ha (Nat.not_lt_zero a)⟩
  rintro a0 x4 g1 ha0 ⟨rfl, hg1, r1, Ar1, G1, m1, m2⟩ B1 hB1
  unfold wM_lay_b64
  refine br_le (by omega) (by omega) (fun u => hB _ _ hltm ⟨nI_1 m, hg1, r1, Ar1, G1.1, G1.2.1, G1.2.2.1, fun q a w => ?_, fun q a b w z => ?_⟩) (fun hlta => ?_)
  · rcases Nat.lt_succ_iff_lt_or_eq.mp q with y | y
    · exact G1.2.2.2.1 y a w
    · refine m1 y.symm a ?_ w
      rcases w with w | w
      · omega
      · have := hO.1 a i w; omega
  · rcases Nat.lt_succ_iff_lt_or_eq.mp q with y | y
    · exact G1.2.2.2.2 y a b w z
    · refine m2 y.symm a ?_ w b z
      rcases w with w | w
      · omega
      · have := hO.1 a i w; omega
  -- the inner loop
  refine Lp2_up (fun b0 x5 g2 => x5 = nI b0 ∧ (∀ a, a ≠ 1 → g2 a = g a) ∧ ∃ r, AR g2 r ∧ GI lt i k m r ∧ (m = i → ∀ a, a < a0 → (a = i ∨ lt a i = true) → r a k = true) ∧ (m = k → ∀ a, a < a0 → (a = i ∨ lt a i = true) → ∀ b, (b = k ∨ lt k b = true) → r a b = true) ∧ (m = i → (a0 = i ∨ lt a0 i = true) → k < b0 → r a0 k = true) ∧ (m = k → (a0 = i ∨ lt a0 i = true) → ∀ b, b < b0 → (b = k ∨ lt k b = true) → r a0 b = true)) n ?_ 0 0 g1 (Nat.zero_le _) ⟨rfl, hg1, r1, Ar1, G1, m1, m2, fun _ _ q => absurd q (Nat.not_lt_zero k), fun _ _ b hb => absurd hb (Nat.not_lt_zero b)⟩
  rintro b0 x5 g2 hb0 ⟨rfl, hg2, r2, Ar2, G2, n1, n2, p1, p2⟩ B2 hB2
  unfold wM_lay_b76
  refine br_le (by omega) (by omega) (fun u => hB1 _ _ hlta ⟨nI_1 a0, hg2, r2, Ar2, G2, fun q a ha w => ?_, fun q a ha w b z => ?_⟩) (fun hltb => ?_)
  · rcases Nat.lt_succ_iff_lt_or_eq.mp ha with y | y
    · exact n1 q a y w
    · subst y; exact p1 q w (by omega)
  · rcases Nat.lt_succ_iff_lt_or_eq.mp ha with y | y
    · exact n2 q a y w b z
    · subst y
      refine p2 q w b ?_ z
      rcases z with z | z
      · omega
      · have := hO.1 k b z; omega
  have key : ∀ v : Bool, v = (r2 a0 b0 || (r2 a0 m && r2 m b0)) → wM_lay_j148 P (nI n) cl tr B2 (fun (g_2 : Sg) => (B1 (nI a0 + 1) g_2)) (nI m) (nI a0) (nI b0) ((8 : Int32) * nI a0 + nI b0) (if v then 1 else 0) g2 := by
    intro v ev
    unfold wM_lay_j148
    refine ⟨inM (by omega) (by omega), fun g3 e3 => ?_⟩
    have mono : r2 a0 b0 = true → v = true := fun q => by rw [ev, q]; rfl
    refine hB2 _ _ hltb ⟨nI_1 b0, fun a ha => by rw [e3, up2_ne _ _ _ ha]; exact hg2 a ha, rup r2 a0 b0 v, AR_up Ar2 (by omega) (by omega) e3, GI_up G2 mono (fun q => ?_), fun q a ha w => rup_mono mono (n1 q a ha w), fun q a ha w b z => rup_mono mono (n2 q a ha w b z), fun q w y => ?_, fun q w b hb z => ?_⟩
    · rw [ev, Bool.or_eq_true, Bool.and_eq_true] at q
      rcases q with q | ⟨q1, q2⟩
      · exact G2.2.2.1 a0 b0 q
      · exact hN.2 a0 m b0 (G2.2.2.1 _ _ q1) (G2.2.2.1 _ _ q2)
    · rcases Nat.lt_succ_iff_lt_or_eq.mp y with z | z
      · exact rup_mono mono (p1 q w z)
      · subst z q
        have : v = true := by
          rcases w with w | w
          · subst w; rw [ev, G2.2.1]; rfl
          · rw [ev, G2.1 a0 m w, G2.2.1]; simp
        simp [rup, this]
    · rcases Nat.lt_succ_iff_lt_or_eq.mp hb with y | y
      · exact rup_mono mono (p2 q w b y z)
      · subst y q
        have hak : r2 a0 m = true := G2.2.2.2.1 (by omega) a0 w
        have : v = true := by
          rcases z with z | z
          · subst z; rw [ev, hak]; rfl
          · rw [ev, hak, G2.1 m b z]; simp
        simp [rup, this]
  unfold wM_lay_j143 wM_lay_j147
  refine ⟨inM (by omega) (by omega), ?_⟩
  have hbr := brA Ar2 (i := a0) (j := b0) (by omega) (by omega) (A := (vp_in (((8 : Int32) * nI a0) + nI m) 64 ∧ (((g2 1 ((((8 : Int32) * nI a0) + nI m)).toNatClampNeg) = 0 → (wM_lay_j148 P (nI n) cl tr B2 (fun (g_2 : Sg) => (B1 (nI a0 + 1) g_2)) (nI m) (nI a0) (nI b0) (((8 : Int32) * nI a0) + nI b0) 0 g2)) ∧ (¬ (g2 1 ((((8 : Int32) * nI a0) + nI m)).toNatClampNeg) = 0 → (vp_in (((8 : Int32) * nI m) + nI b0) 64 ∧ (((g2 1 ((((8 : Int32) * nI m) + nI b0)).toNatClampNeg) = 0 → (wM_lay_j148 P (nI n) cl tr B2 (fun (g_2 : Sg) => (B1 (nI a0 + 1) g_2)) (nI m) (nI a0) (nI b0) (((8 : Int32) * nI a0) + nI b0) 0 g2)) ∧ (¬ (g2 1 ((((8 : Int32) * nI m) + nI b0)).toNatClampNeg) = 0 → (wM_lay_j148 P (nI n) cl tr B2 (fun (g_2 : Sg) => (B1 (nI a0 + 1) g_2)) (nI m) (nI a0) (nI b0) (((8 : Int32) * nI a0) + nI b0) 1 g2)))))))) (B := wM_lay_j148 P (nI n) cl tr B2 (fun (g_2 : Sg) => (B1 (nI a0 + 1) g_2)) (nI m) (nI a0) (nI b0) (((8 : Int32) * nI a0) + nI b0) 1 g2)
    (fun q => ⟨inM (by omega) (by omega), brA Ar2 (by omega) (by omega) (fun w => key false (by rw [q, w]; rfl)) (fun w => ⟨inM (by omega) (by omega), brA Ar2 (by omega) (by omega) (fun z => key false (by rw [q, w, z]; rfl)) (fun z => key true (by rw [q, w, z]; rfl))⟩)⟩) (fun q => key true (by rw [q]; rfl))
  exact ⟨hbr.2, hbr.1⟩
theorem st_lay : Step_lay Rel := by
  intro tc cl tr g tc' cl' tr' g' a1 a2 hR
  obtain ⟨n, kk, lt, c, wt, A, X, M, e⟩ := id hR
  obtain ⟨b1, b2, b3, hO, b5, b6⟩ := id A
  by_cases h1 : ∃ i, i < n ∧ a1 = nI i
  · obtain ⟨i, hi, rfl⟩ := h1
    by_cases h2 : ∃ j, j < n ∧ a2 = nI j
    · obtain ⟨k, hk, rfl⟩ := h2
      by_cases hik : i < k
      · refine lyX A X hik hk (fun hl => ?_) (fun hl g2 X2 => ?_)
        · exact lyM A M hik hk (fun _ => ⟨rfl, hR⟩) (fun q => by rw [hl] at q; cases q)
        · refine lyM A M hik hk (fun q => by rw [hl] at q; cases q) (fun _ g2' M2 => ⟨rfl, n, kk, ltn lt i k, c, wt, ⟨b1, b2, b3, ltn_or hO hik hk, b5, b6⟩, X2, M2, e⟩)
      · have hX : ∀ {P : Int32 → Sg → Prop}, P (-1) g → wX_lay P tc cl tr g (nI i) (nI k) := fun hP => tX_y X.1 b2 hi (z1 (tX_y X.1 b2 hk (z1 (br_lt (by omega) (by omega) (fun u => absurd u hik) (fun _ => hP)))))
        have hM : ∀ {P : Int32 → Sg → Prop}, P (-1) g' → wM_lay P tc' cl' tr' g' (nI i) (nI k) := fun hP => tM_y M.1 b2 hi (z1 (tM_y M.1 b2 hk (z1 (br_lt (by omega) (by omega) (fun u => absurd u hik) (fun _ => hP)))))
        exact hX (hM ⟨rfl, hR⟩)
    · have hx : ∀ j, j < n → a2 ≠ nI j := fun j hj q => h2 ⟨j, hj, q⟩
      unfold wX_lay
      exact tX_y X.1 b2 hi (z1 (tX_n X.1 b2 hx (z0 (tM_y M.1 b2 hi (z1 (tM_n M.1 b1 b2 hx (z0 ⟨rfl, hR⟩)))))))
  · have hx : ∀ j, j < n → a1 ≠ nI j := fun j hj q => h1 ⟨j, hj, q⟩
    unfold wX_lay
    exact tX_n X.1 b2 hx (z0 (tM_n M.1 b1 b2 hx (z0 ⟨rfl, hR⟩)))
