/-! LAY: a pair comes to the order; the closing, in both classes. -/
def ltn (lt : Nat → Nat → Bool) (i k a b : Nat) : Bool := lt a b || ((decide (a = i) || lt a i) && (decide (b = k) || lt k b))
theorem ltn_t {lt : Nat → Nat → Bool} {i k a b : Nat} : ltn lt i k a b = true ↔ lt a b = true ∨ ((a = i ∨ lt a i = true) ∧ (b = k ∨ lt k b = true)) := by
  simp [ltn]
theorem ltn_or {n : Nat} {lt : Nat → Nat → Bool} {i k : Nat} (hO : Or8 n lt) (hik : i < k) (hk : k < n) : Or8 n (ltn lt i k) := by
  refine ⟨fun a b h => ?_, fun a b m h h2 => ?_⟩
  · rw [ltn_t] at h
    rcases h with h | ⟨h1, h2⟩
    · exact hO.1 a b h
    · have ha : a ≤ i := by
        rcases h1 with h1 | h1
        · omega
        · have := hO.1 a i h1; omega
      rcases h2 with h2 | h2
      · omega
      · have := hO.1 k b h2; omega
  · rw [ltn_t] at h h2 ⊢
    rcases h with h | ⟨ha, hb⟩
    · rcases h2 with h2 | ⟨hb, hm⟩
      · exact Or.inl (hO.2 a b m h h2)
      · refine Or.inr ⟨Or.inr ?_, hm⟩
        rcases hb with hb | hb
        · subst hb; exact h
        · exact hO.2 a b i h hb
    · refine Or.inr ⟨ha, ?_⟩
      rcases h2 with h2 | ⟨-, hm⟩
      · refine Or.inr ?_
        rcases hb with hb | hb
        · subst hb; exact h2
        · exact hO.2 k b m hb h2
      · exact hm
theorem mkS_or8 {p q r : Nat → Bool} (h : ∀ j, j < 8 → r j = (p j || q j)) : mkS p 8 ||| mkS q 8 = mkS r 8 := by
  apply bits_ext
  intro j
  rw [Nat.testBit_or, mkS_bit, mkS_bit, mkS_bit]
  by_cases hj : j < 8
  · rw [h j hj]; simp [hj]
  · simp [hj]
theorem mkS_pw {i : Nat} (hi : i < 8) : 2 ^ i = mkS (fun j => decide (j = i)) 8 := by
  apply bits_ext
  intro j
  rw [Nat.testBit_two_pow, mkS_bit]
  by_cases hj : j = i
  · subst hj; simp [hi]
  · simp [hj, Ne.symm hj]
/-- X's lay, where the pair is new -/
theorem lyX {P : Int32 → Sg → Prop} {n kk : Nat} {lt : Nat → Nat → Bool} {c : Nat → Nat} {wt : Nat → Int32} {tc cl : Int32} {tr : Int64} {g : Sg} (A : AS n kk lt c wt) (R : RX n kk lt c wt tc cl g) {i k : Nat} (hik : i < k) (hk : k < n)
    (h0 : lt i k = true → P 0 g) (h1 : lt i k = false → ∀ g2 : Sg, RX n kk (ltn lt i k) c wt tc cl g2 → P 1 g2) : wX_lay P tc cl tr g (nI i) (nI k) := by
  obtain ⟨b1, b2, b3, hO, -, -⟩ := id A
  have etc := R.1
  subst etc
  have m31 : ∀ p : Nat → Bool, mkS p 8 < 2 ^ 31 := fun p => Nat.lt_of_lt_of_le (mkS_lt _ 8) (by decide)
  unfold wX_lay
  refine tX_y rfl b2 (by omega) (z1 (tX_y rfl b2 hk (z1 ?_)))
  refine br_lt (by omega) (by omega) (fun _ => ⟨vp_in_nI (by omega) (by decide), ?_⟩) (fun u => absurd u (by omega))
  rw [nI_clamp (show k < 2 ^ 31 by omega), nI_clamp (show i < 2 ^ 31 by omega), R.2.2.1 k (by omega), R.2.2.1 i (by omega), R.2.2.2.1 k (by omega), sh1 i (by omega), sh1 k (by omega)]
  refine hasX (m31 _) (by omega) ?_
  rw [hsI (n := n) (by omega) (by omega)]
  cases hl : lt i k with
  | true => exact z1 (h0 hl)
  | false =>
    refine z0 ⟨vp_in_nI (by omega) (by decide), fun x3 e3 => ⟨vp_in_nI (by omega) (by decide), fun x4 e4 => ?_⟩⟩
    rw [fa_or, mkS_pw (show i < 8 by omega), mkS_or8 (r := fun j => decide (j = i) || lt j i) (fun j _ => Bool.or_comm _ _)] at e3
    rw [fa_or, mkS_pw (show k < 8 by omega), mkS_or8 (r := fun j => decide (j = k) || lt k j) (fun j _ => Bool.or_comm _ _)] at e4
    subst e3 e4
    refine Lp2_up (fun t x5 g0 => x5 = nI t ∧ (∀ a, a ≠ 3 → a ≠ 4 → g0 a = g a) ∧ (∀ b, b < 8 → g0 3 b = nI (mkS (fun a => if b < t then ltn lt i k a b else lt a b) 8)) ∧ ∀ a, a < 8 → g0 4 a = nI (mkS (fun b => if a < t then ltn lt i k a b else lt a b) 8)) n ?_ 0 0 g (Nat.zero_le _) ⟨rfl, fun _ _ _ => rfl, fun b hb => R.2.2.1 b hb, fun a ha => R.2.2.2.1 a ha⟩
    rintro t x5 g0 ht ⟨rfl, hg, h3, h4⟩ B hB
    unfold wX_lay_b64 wX_lay_j94
    refine br_le (by omega) (by omega) (fun u => h1 hl g0 ⟨rfl, ?_, fun b hb => ?_, fun a ha => ?_, ?_, ?_⟩) (fun hlt => ?_)
    · exact R.2.1
    · rw [h3 b hb]
      congr 1
      apply mkS_cong
      intro a ha
      by_cases hbt : b < t
      · simp [hbt]
      · simp only [hbt, ↓reduceIte]
        apply bool_ext
        rw [ltn_t]
        refine ⟨Or.inl, fun w => w.elim id (fun ⟨_, w2⟩ => ?_)⟩
        rcases w2 with w2 | w2
        · omega
        · have := hO.1 k b w2; omega
    · rw [h4 a ha]
      congr 1
      apply mkS_cong
      intro b hb
      by_cases hat : a < t
      · simp [hat]
      · simp only [hat, ↓reduceIte]
        apply bool_ext
        rw [ltn_t]
        refine ⟨Or.inl, fun w => w.elim id (fun ⟨w1, _⟩ => ?_)⟩
        rcases w1 with w1 | w1
        · omega
        · have := hO.1 a i w1; omega
    · rw [hg 5 (by decide) (by decide)]; exact R.2.2.2.2.1
    · rw [hg 6 (by decide) (by decide)]; exact R.2.2.2.2.2
    · have hin : vp_in (nI t) 8 := vp_in_nI (by omega) (by decide)
      have hbL : (mkS (fun j => decide (j = i) || lt j i) 8).testBit t = (decide (t = i) || lt t i) := by rw [mkS_bit]; simp [show t < 8 by omega]
      have hbU : (mkS (fun j => decide (j = k) || lt k j) 8).testBit t = (decide (t = k) || lt k t) := by rw [mkS_bit]; simp [show t < 8 by omega]
      -- behind the first half: over is right up to t
      have half : ∀ g1 : Sg, (∀ a, a ≠ 4 → g1 a = g0 a) → (∀ a, a < 8 → g1 4 a = nI (mkS (fun b => if a < t + 1 then ltn lt i k a b else lt a b) 8)) → wX_has (fun r_1 => ((r_1 = 0 → (B (nI t + 1) g1)) ∧ (¬ r_1 = 0 → (vp_in (nI t) 8 ∧ (vp_in (nI t) 8 ∧ ∀ g_2 : Sg, g_2 = up2 g1 3 (nI t).toNatClampNeg ((g1 3 (nI t).toNatClampNeg) ||| nI (mkS (fun j => decide (j = i) || lt j i) 8)) → (B (nI t + 1) g_2)))))) (nI (mkS (fun j => decide (j = k) || lt k j) 8)) (nI t) := by
        intro g1 hg1 h41
        refine hasX (m31 _) (by omega) ?_
        rw [hbU]
        cases hub : (decide (t = k) || lt k t) with
        | false =>
          refine z0 (hB _ _ hlt ⟨nI_1 t, fun a ha ha4 => by rw [hg1 a ha4, hg a ha ha4], fun b hb => ?_, h41⟩)
          rw [hg1 3 (by decide), h3 b hb]
          congr 1
          apply mkS_cong
          intro a ha
          by_cases hbt : b = t
          · subst hbt
            simp only [Nat.lt_irrefl, ↓reduceIte, Nat.lt_succ_self]
            simp [ltn, hub]
          · by_cases hbt2 : b < t
            · simp [hbt2, show b < t + 1 by omega]
            · simp [hbt2, show ¬ b < t + 1 by omega]
        | true =>
          refine z1 ⟨hin, hin, fun g2 e2 => hB _ _ hlt ⟨nI_1 t, fun a ha ha4 => by rw [e2, up2_ne _ _ _ ha, hg1 a ha4, hg a ha ha4], fun b hb => ?_, fun a ha => by rw [e2, up2_ne _ _ _ (by decide)]; exact h41 a ha⟩⟩
          rw [nI_clamp (by omega), hg1 3 (by decide), h3 t (by omega), fa_or] at e2
          rw [e2, up2_same]
          by_cases hbt : b = t
          · subst hbt
            rw [upd_eq]
            congr 1
            apply mkS_or8
            intro a ha
            simp only [Nat.lt_irrefl, ↓reduceIte, Nat.lt_succ_self]
            simp [ltn, hub]
          · rw [upd_ne _ _ hbt, hg1 3 (by decide), h3 b hb]
            congr 1
            apply mkS_cong
            intro a ha
            by_cases hbt2 : b < t
            · simp [hbt2, show b < t + 1 by omega]
            · simp [hbt2, show ¬ b < t + 1 by omega]
      refine hasX (m31 _) (by omega) ?_
      rw [hbL]
      cases hdn : (decide (t = i) || lt t i) with
      | false =>
        refine z0 (half g0 (fun _ _ => rfl) (fun a ha => ?_))
        rw [h4 a ha]
        congr 1
        apply mkS_cong
        intro b hb
        by_cases hat : a = t
        · subst hat
          simp only [Nat.lt_irrefl, ↓reduceIte, Nat.lt_succ_self]
          simp [ltn, hdn]
        · by_cases hat2 : a < t
          · simp [hat2, show a < t + 1 by omega]
          · simp [hat2, show ¬ a < t + 1 by omega]
      | true =>
        refine z1 ⟨hin, hin, fun g1 e1 => half g1 (fun a ha => by rw [e1, up2_ne _ _ _ ha]) (fun a ha => ?_)⟩
        rw [nI_clamp (by omega), h4 t (by omega), fa_or] at e1
        rw [e1, up2_same]
        by_cases hat : a = t
        · subst hat
          rw [upd_eq]
          congr 1
          apply mkS_or8
          intro b hb
          simp only [Nat.lt_irrefl, ↓reduceIte, Nat.lt_succ_self]
          simp [ltn, hdn]
        · rw [upd_ne _ _ hat, h4 a ha]
          congr 1
          apply mkS_cong
          intro b hb
          by_cases hat2 : a < t
          · simp [hat2, show a < t + 1 by omega]
          · simp [hat2, show ¬ a < t + 1 by omega]
