/-! ROUNDS: what comes back under a map that is one to one. fb_holes, fb_twice: from the kit's laws/COUNTS. -/
theorem fb_holes : ∀ (m n : Nat) (f : Nat → Nat), (∀ i, i < n → f i < m) → (∀ i j, i < j → j < n → f i ≠ f j) → n ≤ m := by
  intro m
  induction m with
  | zero =>
    intro n f h1 _
    rcases Nat.eq_zero_or_pos n with h | h
    · omega
    · exact absurd (h1 0 h) (Nat.not_lt_zero _)
  | succ m ih =>
    intro n f h1 h2
    by_cases hx : ∃ i, i < n ∧ f i = m
    · obtain ⟨a, ha, hfa⟩ := hx
      have hg := ih (n - 1) (fun i => if i < a then f i else f (i + 1)) (by
        intro i hi
        by_cases q : i < a
        · simp only [if_pos q]
          have b1 := h1 i (by omega)
          have b2 := h2 i a q ha
          omega
        · simp only [if_neg q]
          have b1 := h1 (i + 1) (by omega)
          have b2 := h2 a (i + 1) (by omega) (by omega)
          omega) (by
        intro i j hij hj
        by_cases q : i < a
        · by_cases r : j < a
          · simp only [if_pos q, if_pos r]
            exact h2 i j hij (by omega)
          · simp only [if_pos q, if_neg r]
            exact h2 i (j + 1) (by omega) (by omega)
        · have r : ¬ j < a := by omega
          simp only [if_neg q, if_neg r]
          exact h2 (i + 1) (j + 1) (by omega) (by omega))
      omega
    · have hg := ih n f (fun i hi => by
        have b1 := h1 i hi
        have b2 : f i ≠ m := fun e => hx ⟨i, hi, e⟩
        omega) h2
      omega
/-- two of them in one place -/
theorem fb_twice {m n : Nat} {f : Nat → Nat} (h : ∀ i, i < n → f i < m) (hm : m < n) : ∃ i j, i < j ∧ j < n ∧ f i = f j := by
  refine Classical.byContradiction fun hx => ?_
  have := fb_holes m n f h (fun i j hij hj e => hx ⟨i, j, hij, hj, e⟩)
  omega
def itf (f : Nat → Nat) : Nat → Nat → Nat
  | 0, x => x
  | t + 1, x => f (itf f t x)
theorem itf_add (f : Nat → Nat) (a : Nat) (x : Nat) : ∀ b, itf f (a + b) x = itf f b (itf f a x)
  | 0 => rfl
  | b + 1 => by rw [← Nat.add_assoc, itf, itf_add f a x b, itf]
/-- a map on the things of a kind, below N -/
def Mp (p : Nat → Prop) (N : Nat) (f : Nat → Nat) : Prop := (∀ x, p x → p (f x)) ∧ (∀ x y, p x → p y → f x = f y → x = y) ∧ ∀ x, p x → x < N
theorem itf_p {p : Nat → Prop} {N : Nat} {f : Nat → Nat} (h : Mp p N f) {x : Nat} (hx : p x) : ∀ t, p (itf f t x)
  | 0 => hx
  | t + 1 => h.1 _ (itf_p h hx t)
theorem itf_inj {p : Nat → Prop} {N : Nat} {f : Nat → Nat} (h : Mp p N f) {x y : Nat} (hx : p x) (hy : p y) : ∀ t, itf f t x = itf f t y → x = y
  | 0, e => e
  | t + 1, e => itf_inj h hx hy t (h.2.1 _ _ (itf_p h hx t) (itf_p h hy t) e)
theorem itf_back {p : Nat → Prop} {N : Nat} {f : Nat → Nat} (h : Mp p N f) {x : Nat} (hx : p x) {i j : Nat} (hij : i ≤ j) (e : itf f i x = itf f j x) : itf f (j - i) x = x := by
  have e2 : itf f j x = itf f i (itf f (j - i) x) := by rw [← itf_add]; congr 1; omega
  rw [e2] at e
  exact (itf_inj h hx (itf_p h hx _) i e).symm
theorem itf_ex {p : Nat → Prop} {N : Nat} {f : Nat → Nat} (h : Mp p N f) {x : Nat} (hx : p x) : ∃ t, 1 ≤ t ∧ t ≤ N ∧ itf f t x = x := by
  obtain ⟨i, j, h1, h2, e⟩ := fb_twice (m := N) (n := N + 1) (f := fun t => itf f t x) (fun t _ => h.2.2 _ (itf_p h hx t)) (Nat.lt_succ_self N)
  exact ⟨j - i, by omega, by omega, itf_back h hx (by omega) e⟩
noncomputable def per (f : Nat → Nat) (x : Nat) : Nat := @dite _ (∃ t, 1 ≤ t ∧ itf f t x = x) (Classical.propDecidable _) (fun h => Classical.choose (pk_least (fun t => 1 ≤ t ∧ itf f t x = x) h)) (fun _ => 0)
theorem per_spec {p : Nat → Prop} {N : Nat} {f : Nat → Nat} (h : Mp p N f) {x : Nat} (hx : p x) : 1 ≤ per f x ∧ per f x ≤ N ∧ itf f (per f x) x = x ∧ ∀ t, 1 ≤ t → t < per f x → itf f t x ≠ x := by
  obtain ⟨t0, a, b, e⟩ := itf_ex h hx
  have hex : ∃ t, 1 ≤ t ∧ itf f t x = x := ⟨t0, a, e⟩
  have ed : per f x = Classical.choose (pk_least (fun t => 1 ≤ t ∧ itf f t x = x) hex) := by
    unfold per
    exact @dif_pos _ (Classical.propDecidable _) hex _ _ _
  have hs := Classical.choose_spec (pk_least (fun t => 1 ≤ t ∧ itf f t x = x) hex)
  rw [← ed] at hs
  refine ⟨hs.1.1, ?_, hs.1.2, fun t h1 h2 h3 => hs.2 t h2 ⟨h1, h3⟩⟩
  rcases Nat.lt_or_ge N (per f x) with q | q
  · exact absurd ⟨a, e⟩ (hs.2 t0 (by omega))
  · exact q
/-- in the round of S, before t turns -/
def inO (f : Nat → Nat) (S t T : Nat) : Prop := ∃ s, s < t ∧ itf f s S = T
theorem Mp_tn {n k : Nat} {lt : Nat → Nat → Bool} {c : Nat → Nat} {wt : Nat → Int32} (A : AS n k lt c wt) (q : Nat) : Mp (Hp n lt) (2 ^ n) (tn n k lt c q) :=
  ⟨fun _ h => tn_hp A h, fun _ _ h1 h2 e => tn_inj A h1 h2 e, fun _ h => h.1⟩
theorem kX_y {P : Int32 → Prop} {q : Nat} (hq : q < 2) (h : P 1) : wX_isTurnKind P (nI q) := by
  unfold wX_isTurnKind wX_isTurnKind_j9
  rcases (show q = 0 ∨ q = 1 by omega) with rfl | rfl
  · exact ⟨fun _ => h, fun r => absurd rfl r⟩
  · exact ⟨fun _ => h, fun _ => ⟨fun r => absurd rfl r, fun _ => h⟩⟩
theorem kX_n {P : Int32 → Prop} {x : Int32} (hx : ∀ q, q < 2 → x ≠ nI q) (h : P 0) : wX_isTurnKind P x := by
  unfold wX_isTurnKind
  exact ⟨fun r => absurd r (hx 0 (by decide)), fun _ => ⟨fun _ => h, fun r => absurd r (hx 1 (by decide))⟩⟩
theorem kM_y {P : Int32 → Prop} {q : Nat} (hq : q < 2) (h : P 1) : wM_isKind P (nI q) := by
  unfold wM_isKind
  exact inY (a := 0) (b := 1) (by omega) (by omega) (by decide) ⟨Or.inr rfl, h⟩
theorem kM_n {P : Int32 → Prop} {x : Int32} (hx : ∀ q, q < 2 → x ≠ nI q) (h : P 0) : wM_isKind P x := by
  unfold wM_isKind
  exact inN (a := 0) (b := 1) (by decide) (by decide) (fun i _ h2 => hx i (by omega)) ⟨Or.inl rfl, h⟩
theorem nX_y {P : Int32 → Prop} {q : Nat} (hq : q ≤ 1000) (h : P 1) : wX_isTurnNumber P (nI q) := by
  unfold wX_isTurnNumber
  exact ⟨fun r => absurd r (nI_pos (by omega)), fun _ => br_lt (a := 1000) (b := q) (by decide) (by omega) (fun r => absurd r (by omega)) (fun _ => h)⟩
theorem nX_n {P : Int32 → Prop} {x : Int32} (hx : ∀ q, q ≤ 1000 → x ≠ nI q) (h : P 0) : wX_isTurnNumber P x := by
  unfold wX_isTurnNumber
  refine ⟨fun _ => h, fun r => ⟨fun _ => h, fun u => ?_⟩⟩
  rcases int_out (a := 0) (b := 1000) (by decide) (by decide) (fun i _ h2 => hx i h2) with v | v
  · exact absurd v r
  · exact absurd v u
theorem st_turn : Step_turn Rel := by
  intro tc cl tr g tc' cl' tr' g' a1 a2 a3 hR
  obtain ⟨n, k, lt, c, wt, A, X, M, e⟩ := id hR
  unfold wX_turn
  by_cases h1 : ∃ S, Hp n lt S ∧ a1 = nI S
  · obtain ⟨S, H, rfl⟩ := h1
    refine hX_y A X H (z1 ?_)
    by_cases h2 : ∃ j, j < 2 ∧ a2 = nI j
    · obtain ⟨q, hq, rfl⟩ := h2
      refine kX_y hq (z1 ?_)
      by_cases h3 : ∃ j, j ≤ 1000 ∧ a3 = nI j
      · obtain ⟨N, hN, rfl⟩ := h3
        refine nX_y hN (y1 ?_)
        have hp := itf_p (Mp_tn A q) H
        refine Lp2_up (fun i x4 x5 => x5 = nI i ∧ x4 = nI (itf (tn n k lt c q) i S)) N ?_ 0 (nI S) 0 (Nat.zero_le _) ⟨rfl, rfl⟩
        rintro i x4 x5 hi ⟨rfl, rfl⟩ B hB
        unfold wX_turn_b30
        refine br_le (by omega) (by omega) (fun r => ?_) (fun hlt => tnX A X (hp i) hq (hB _ _ hlt ⟨nI_1 i, rfl⟩))
        have ei : N = i := by omega
        subst ei
        refine hM_y A M H (z1 (kM_y hq (z1 (inY (a := 0) (b := 1000) (by omega) (by omega) (by decide) (y1 ?_)))))
        refine Lp2_up (fun i x4 x5 => x5 = nI i ∧ x4 = nI (itf (tn n k lt c q) i S)) N ?_ 0 (nI S) 0 (Nat.zero_le _) ⟨rfl, rfl⟩
        rintro i x4 x5 hi ⟨rfl, rfl⟩ B hB
        unfold wM_turn_b34
        refine br_le (by omega) (by omega) (fun r => ?_) (fun hlt => tnM A M (hp i) hq (hB _ _ hlt ⟨nI_1 i, rfl⟩))
        exact ⟨by rw [show i = N by omega], hR⟩
      · have hx : ∀ j, j ≤ 1000 → a3 ≠ nI j := fun j hj q => h3 ⟨j, hj, q⟩
        exact nX_n hx (y0 (hM_y A M H (z1 (kM_y hq (z1 (inN (a := 0) (b := 1000) (by decide) (by decide) (fun i _ r => hx i r) (y0 ⟨rfl, hR⟩)))))))
    · have hx : ∀ j, j < 2 → a2 ≠ nI j := fun j hj q => h2 ⟨j, hj, q⟩
      exact kX_n hx (z0 (hM_y A M H (z1 (kM_n hx (z0 ⟨rfl, hR⟩)))))
  · have hx : ∀ S, Hp n lt S → a1 ≠ nI S := fun S hS q => h1 ⟨S, hS, q⟩
    exact hX_n A X hx (z0 (hM_n A M hx (z0 ⟨rfl, hR⟩)))
/-- X's walk through a round: how long it is, and its marks -/
theorem wkX {P : Int32 → Sg → Prop} {n k : Nat} {lt : Nat → Nat → Bool} {c : Nat → Nat} {wt : Nat → Int32} {tc cl : Int32} {tr : Int64} {g : Sg} (A : AS n k lt c wt) (R : RX n k lt c wt tc cl g) {S q : Nat} (H : Hp n lt S) (hq : q < 2)
    (h : ∀ g2 : Sg, (∀ a, a ≠ 12 → g2 a = g a) → (∀ T, T < 256 → (inO (tn n k lt c q) S (per (tn n k lt c q) S) T → g2 12 T = 1) ∧ (¬ inO (tn n k lt c q) S (per (tn n k lt c q) S) T → g2 12 T = g 12 T)) → P (nI (per (tn n k lt c q) S)) g2) : wX_walkOrbit P tc cl tr g (nI S) (nI q) := by
  have hM := Mp_tn A q
  obtain ⟨p1, p2, p3, p4⟩ := per_spec hM H
  have hp8 := pw8 A.2.1
  have hh := itf_p hM H
  refine Lp3_up (fun i x3 x4 g0 => x3 = nI (itf (tn n k lt c q) i S) ∧ x4 = nI i ∧ (∀ a, a ≠ 12 → g0 a = g a) ∧ ∀ T, T < 256 → (inO (tn n k lt c q) S i T → g0 12 T = 1) ∧ (¬ inO (tn n k lt c q) S i T → g0 12 T = g 12 T)) (per (tn n k lt c q) S - 1) ?_ 0 (nI S) 0 g (Nat.zero_le _) ⟨rfl, rfl, fun _ _ => rfl, fun T _ => ⟨fun ⟨s, hs, _⟩ => absurd hs (Nat.not_lt_zero s), fun _ => rfl⟩⟩
  rintro i x3 x4 g0 hi ⟨rfl, rfl, hg, hm⟩ B hB
  unfold wX_walkOrbit_b5
  have hlt := (hh i).1
  refine ⟨vp_in_nI (by omega) (by decide), fun g1 e1 => ?_⟩
  rw [nI_clamp (by omega), nar1] at e1
  have hg1 : ∀ a, a ≠ 12 → g1 a = g a := fun a ha => by rw [e1, up2_ne _ _ _ ha]; exact hg a ha
  have hm1 : ∀ T, T < 256 → (inO (tn n k lt c q) S (i + 1) T → g1 12 T = 1) ∧ (¬ inO (tn n k lt c q) S (i + 1) T → g1 12 T = g 12 T) := by
    intro T hT
    rw [e1, up2_same]
    by_cases hTi : T = itf (tn n k lt c q) i S
    · subst hTi
      rw [upd_eq]
      exact ⟨fun _ => rfl, fun r => absurd ⟨i, by omega, rfl⟩ r⟩
    · rw [upd_ne _ _ hTi]
      refine ⟨fun ⟨s, hs, es⟩ => (hm T hT).1 ⟨s, ?_, es⟩, fun r => (hm T hT).2 (fun ⟨s, hs, es⟩ => r ⟨s, by omega, es⟩)⟩
      rcases Nat.lt_succ_iff_lt_or_eq.mp hs with u | u
      · exact u
      · subst u; exact absurd es.symm hTi
  have R1 : RX n k lt c wt tc cl g1 := R.keep (fun a ha => hg1 a (by omega))
  refine tnX A R1 (hh i) hq ?_
  have h2 := (hh (i + 1)).1
  have hS := H.1
  refine br_eq (a := itf (tn n k lt c q) (i + 1) S) (b := S) (by omega) (by omega) (fun r => ?_) (fun r => ?_)
  · have ei : per (tn n k lt c q) S = i + 1 := by
      rcases Nat.lt_or_ge (i + 1) (per (tn n k lt c q) S) with u | u
      · exact absurd r (p4 (i + 1) (by omega) u)
      · omega
    rw [nI_1, ← ei]
    rw [← ei] at hm1
    exact h g1 hg1 hm1
  · have hlt2 : i + 1 < per (tn n k lt c q) S := by
      rcases Nat.lt_or_ge (i + 1) (per (tn n k lt c q) S) with u | u
      · exact u
      · exact absurd (by rw [show i + 1 = per (tn n k lt c q) S by omega]; exact p3) r
    rw [nI_1]
    refine br_lt (a := i + 1) (b := 256) (by omega) (by decide) (fun _ => hB _ _ _ (by omega) ⟨rfl, rfl, hg1, hm1⟩) (fun u => absurd u (by omega))
theorem obM {P : Int32 → Prop} {n k : Nat} {lt : Nat → Nat → Bool} {c : Nat → Nat} {wt : Nat → Int32} {tc cl : Int32} {tr : Int64} {g : Sg} (A : AS n k lt c wt) (R : RM n k lt c wt tc cl g) {S q : Nat} (H : Hp n lt S) (hq : q < 2) (h : P (nI (per (tn n k lt c q) S))) : wM_orbitOf P tc cl tr g (nI S) (nI q) := by
  have hMp := Mp_tn A q
  obtain ⟨p1, p2, p3, p4⟩ := per_spec hMp H
  have hp8 := pw8 A.2.1
  have hh := itf_p hMp H
  refine tnM A R H hq ?_
  refine Lp2_up (fun i x3 x4 => x3 = nI (i + 1) ∧ x4 = nI (itf (tn n k lt c q) (i + 1) S)) (per (tn n k lt c q) S - 1) ?_ 0 1 _ (Nat.zero_le _) ⟨rfl, rfl⟩
  rintro i x3 x4 hi ⟨rfl, rfl⟩ B hB
  unfold wM_orbitOf_b10
  have h2 := (hh (i + 1)).1
  have hS := H.1
  refine br_eq (a := itf (tn n k lt c q) (i + 1) S) (b := S) (by omega) (by omega) (fun r => ?_) (fun r => ?_)
  · have ei : per (tn n k lt c q) S = i + 1 := by
      rcases Nat.lt_or_ge (i + 1) (per (tn n k lt c q) S) with u | u
      · exact absurd r (p4 (i + 1) (by omega) u)
      · omega
    rw [← ei]; exact h
  · have hlt2 : i + 1 < per (tn n k lt c q) S := by
      rcases Nat.lt_or_ge (i + 1) (per (tn n k lt c q) S) with u | u
      · exact u
      · exact absurd (by rw [show i + 1 = per (tn n k lt c q) S by omega]; exact p3) r
    exact tnM A R (hh (i + 1)) hq (hB _ _ (by omega) ⟨nI_1 (i + 1), rfl⟩)
theorem Rel.scrX {n k : Nat} {lt : Nat → Nat → Bool} {c : Nat → Nat} {wt : Nat → Int32} {tc cl : Int32} {tr : Int64} {g g2 : Sg} {tc' cl' : Int32} {tr' : Int64} {g' g2' : Sg} (A : AS n k lt c wt) (X : RX n k lt c wt tc cl g) (M : RM n k lt c wt tc' cl' g') (e : tr = tr') (h : ∀ a, a < 7 → g2 a = g a) (h2 : ∀ a, a < 4 → g2' a = g' a) : Rel tc cl tr g2 tc' cl' tr' g2' :=
  ⟨n, k, lt, c, wt, A, X.keep h, M.keep h2, e⟩
theorem st_orbit : Step_orbit Rel := by
  intro tc cl tr g tc' cl' tr' g' a1 a2 hR
  obtain ⟨n, k, lt, c, wt, A, X, M, e⟩ := id hR
  unfold wX_orbit
  by_cases h1 : ∃ S, Hp n lt S ∧ a1 = nI S
  · obtain ⟨S, H, rfl⟩ := h1
    refine hX_y A X H (z1 ?_)
    by_cases h2 : ∃ j, j < 2 ∧ a2 = nI j
    · obtain ⟨q, hq, rfl⟩ := h2
      refine kX_y hq (y1 (wkX A X H hq (fun g2 hg _ => ?_)))
      exact hM_y A M H (z1 (kM_y hq (z1 (obM A M H hq ⟨rfl, Rel.scrX A X M e (fun a ha => hg a (by omega)) (fun _ _ => rfl)⟩))))
    · have hx : ∀ j, j < 2 → a2 ≠ nI j := fun j hj q => h2 ⟨j, hj, q⟩
      exact kX_n hx (y0 (hM_y A M H (z1 (kM_n hx (z0 ⟨rfl, hR⟩)))))
  · have hx : ∀ S, Hp n lt S → a1 ≠ nI S := fun S hS q => h1 ⟨S, hS, q⟩
    exact hX_n A X hx (z0 (hM_n A M hx (z0 ⟨rfl, hR⟩)))
