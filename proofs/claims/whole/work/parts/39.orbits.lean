/-! ROUNDS, each once: by its least heap. -/
theorem itf_mul {p : Nat → Prop} {N : Nat} {f : Nat → Nat} (h : Mp p N f) {x : Nat} (hx : p x) : ∀ m, itf f (per f x * m) x = x
  | 0 => rfl
  | m + 1 => by rw [Nat.mul_succ, itf_add, itf_mul h hx m]; exact (per_spec h hx).2.2.1
theorem itf_mod {p : Nat → Prop} {N : Nat} {f : Nat → Nat} (h : Mp p N f) {x : Nat} (hx : p x) (t : Nat) : itf f (t % per f x) x = itf f t x := by
  have e : t = per f x * (t / per f x) + t % per f x := (Nat.div_add_mod t _).symm
  calc itf f (t % per f x) x = itf f (t % per f x) (itf f (per f x * (t / per f x)) x) := by rw [itf_mul h hx]
    _ = itf f (per f x * (t / per f x) + t % per f x) x := by rw [itf_add]
    _ = itf f t x := by rw [← e]
/-- T is in the round of S -/
def inR (f : Nat → Nat) (S T : Nat) : Prop := ∃ t, itf f t S = T
theorem inO_iff {p : Nat → Prop} {N : Nat} {f : Nat → Nat} (h : Mp p N f) {x T : Nat} (hx : p x) : inO f x (per f x) T ↔ inR f x T := by
  constructor
  · rintro ⟨s, -, e⟩; exact ⟨s, e⟩
  · rintro ⟨t, e⟩
    exact ⟨t % per f x, Nat.mod_lt _ (by have := (per_spec h hx).1; omega), by rw [itf_mod h hx]; exact e⟩
theorem inR_p {p : Nat → Prop} {N : Nat} {f : Nat → Nat} (h : Mp p N f) {x T : Nat} (hx : p x) (r : inR f x T) : p T := by
  obtain ⟨t, rfl⟩ := r; exact itf_p h hx t
theorem inR_self (f : Nat → Nat) (x : Nat) : inR f x x := ⟨0, rfl⟩
theorem inR_sym {p : Nat → Prop} {N : Nat} {f : Nat → Nat} (h : Mp p N f) {x T : Nat} (hx : p x) (r : inR f x T) : inR f T x := by
  obtain ⟨t, rfl⟩ := r
  have h1 := (per_spec h hx).1
  have h2 : t ≤ per f x * t := Nat.le_mul_of_pos_left t h1
  refine ⟨per f x * t - t, ?_⟩
  rw [← itf_add, show t + (per f x * t - t) = per f x * t by omega]
  exact itf_mul h hx t
theorem inR_trans {f : Nat → Nat} {x y z : Nat} (r : inR f x y) (r2 : inR f y z) : inR f x z := by
  obtain ⟨t, rfl⟩ := r
  obtain ⟨s, rfl⟩ := r2
  exact ⟨t + s, itf_add f t x s⟩
theorem per_le {p : Nat → Prop} {N : Nat} {f : Nat → Nat} (h : Mp p N f) {x T : Nat} (hx : p x) (r : inR f x T) : per f T ≤ per f x := by
  have hT := inR_p h hx r
  obtain ⟨t, rfl⟩ := r
  obtain ⟨p1, -, p3, -⟩ := per_spec h hx
  obtain ⟨-, -, -, q4⟩ := per_spec h hT
  rcases Nat.lt_or_ge (per f x) (per f (itf f t x)) with u | u
  · refine absurd ?_ (q4 (per f x) p1 u)
    rw [← itf_add, Nat.add_comm, itf_add, p3]
  · exact u
theorem per_eq {p : Nat → Prop} {N : Nat} {f : Nat → Nat} (h : Mp p N f) {x T : Nat} (hx : p x) (r : inR f x T) : per f T = per f x :=
  Nat.le_antisymm (per_le h hx r) (per_le h (inR_p h hx r) (inR_sym h hx r))
noncomputable def mnb (p : Nat → Prop) (f : Nat → Nat) (S : Nat) : Bool := @decide (p S ∧ ∀ U, U < S → p U → ¬ inR f U S) (Classical.propDecidable _)
theorem mnb_t {p : Nat → Prop} {f : Nat → Nat} {S : Nat} : mnb p f S = true ↔ p S ∧ ∀ U, U < S → p U → ¬ inR f U S := by unfold mnb; exact @decide_eq_true_iff _ (Classical.propDecidable _)
theorem mnb_f {p : Nat → Prop} {f : Nat → Nat} {S : Nat} : mnb p f S = false ↔ ¬ (p S ∧ ∀ U, U < S → p U → ¬ inR f U S) := by rw [← mnb_t]; simp
theorem ctn_mono (p : Nat → Bool) {m : Nat} : ∀ j, ctn p m ≤ ctn p (m + j)
  | 0 => Nat.le_refl _
  | j + 1 => by have := ctn_mono p (m := m) j; rw [← Nat.add_assoc, ctn]; omega
theorem ctn_lt {p : Nat → Bool} {a b : Nat} (hab : a < b) (ha : p a = true) : ctn p a < ctn p b := by
  have h := ctn_mono p (m := a + 1) (b - (a + 1))
  rw [show a + 1 + (b - (a + 1)) = b by omega, ctn, ha] at h
  simp at h
  omega
theorem ctn_inj {p : Nat → Bool} {a b : Nat} (ha : p a = true) (hb : p b = true) (e : ctn p a = ctn p b) : a = b := by
  rcases Nat.lt_trichotomy a b with h | h | h
  · have := ctn_lt h ha; omega
  · exact h
  · have := ctn_lt h hb; omega
theorem ctn_kth {p : Nat → Bool} {j : Nat} : ∀ {n : Nat}, j < ctn p n → ∃ i, i < n ∧ p i = true ∧ ctn p i = j
  | 0, h => absurd h (Nat.not_lt_zero j)
  | n + 1, h => by
    rcases Nat.lt_or_ge j (ctn p n) with q | q
    · obtain ⟨i, h1, h2⟩ := ctn_kth q
      exact ⟨i, by omega, h2⟩
    · rw [ctn] at h
      cases hp : p n with
      | false => rw [hp] at h; simp at h; omega
      | true => rw [hp] at h; simp at h; exact ⟨n, by omega, hp, by omega⟩
/-- X's list of the rounds -/
def Ls (p : Nat → Prop) (f : Nat → Nat) (s : Nat) (g : Sg) : Prop := ∀ U, U < s → mnb p f U = true → g 10 (ctn (mnb p f) U) = nI U ∧ g 11 (ctn (mnb p f) U) = nI (per f U)
theorem foX {P : Int32 → Sg → Prop} {n k : Nat} {lt : Nat → Nat → Bool} {c : Nat → Nat} {wt : Nat → Int32} {tc cl : Int32} {tr : Int64} {g : Sg} (A : AS n k lt c wt) (R : RX n k lt c wt tc cl g) {q : Nat} (hq : q < 2)
    (h : ∀ g2 : Sg, (∀ a, a < 7 → g2 a = g a) → Ls (Hp n lt) (tn n k lt c q) (2 ^ n) g2 → P (nI (ctn (mnb (Hp n lt) (tn n k lt c q)) (2 ^ n))) g2) : wX_findOrbits P tc cl tr g (nI q) := by
  have hMp := Mp_tn A q
  have hp8 := pw8 A.2.1
  have b2 := A.2.1
  refine Lp2_up (fun i x2 g0 => x2 = nI i ∧ (∀ a, a < 7 → g0 a = g a) ∧ ∀ T, T < i → (Hp n lt T → g0 12 T = 0) ∧ (¬ Hp n lt T → g0 12 T = 1)) (2 ^ n) ?_ 0 0 g (Nat.zero_le _) ⟨rfl, fun _ _ => rfl, fun T hT => absurd hT (Nat.not_lt_zero T)⟩
  rintro i x2 g0 hi ⟨rfl, hg, hs⟩ B hB
  have R0 : RX n k lt c wt tc cl g0 := R.keep hg
  unfold wX_findOrbits_b2 wX_findOrbits_j28
  refine scX R.1 b2 (br_le (by omega) (by omega) (fun u => ?_) (fun hlt => ?_))
  · have ei : i = 2 ^ n := by omega
    subst ei
    refine Lp3_up (fun s x2 x3 g1 => x3 = nI s ∧ x2 = nI (ctn (mnb (Hp n lt) (tn n k lt c q)) s) ∧ (∀ a, a < 7 → g1 a = g a) ∧ Ls (Hp n lt) (tn n k lt c q) s g1 ∧ ∀ T, T < 2 ^ n → ((¬ Hp n lt T ∨ ∃ U, U < s ∧ Hp n lt U ∧ inR (tn n k lt c q) U T) → g1 12 T = 1) ∧ (¬ (¬ Hp n lt T ∨ ∃ U, U < s ∧ Hp n lt U ∧ inR (tn n k lt c q) U T) → g1 12 T = 0)) (2 ^ n) ?_ 0 0 0 g0 (Nat.zero_le _) ⟨rfl, rfl, hg, fun U hU => absurd hU (Nat.not_lt_zero U), fun T hT => ⟨fun r => ?_, fun r => ?_⟩⟩
    · rintro s x2 x3 g1 hs2 ⟨rfl, rfl, hg1, hL, hm⟩ B2 hB2
      have R1 : RX n k lt c wt tc cl g1 := R.keep hg1
      unfold wX_findOrbits_b39
      refine scX R.1 b2 (br_le (by omega) (by omega) (fun u => ?_) (fun hlt2 => ⟨vp_in_nI (by omega) (by decide), ?_⟩))
      · have es : s = 2 ^ n := by omega
        subst es
        exact h g1 hg1 hL
      · rw [nI_clamp (by omega)]
        have hcl := ctn_le (mnb (Hp n lt) (tn n k lt c q)) s
        by_cases hmn : mnb (Hp n lt) (tn n k lt c q) s = true
        · obtain ⟨Hs, hno⟩ := mnb_t.mp hmn
          have h0 : g1 12 s = 0 := (hm s hlt2).2 (fun r => r.elim (fun r => r Hs) (fun ⟨U, hU, hU2, hU3⟩ => hno U hU hU2 hU3))
          refine ⟨fun r => absurd h0 r, fun _ => ⟨vp_in_nI (by omega) (by decide), fun g5 e5 => ?_⟩⟩
          rw [nI_clamp (by omega)] at e5
          have hg5 : ∀ a, a ≠ 10 → g5 a = g1 a := fun a ha => by rw [e5, up2_ne _ _ _ ha]
          have R5 : RX n k lt c wt tc cl g5 := R1.keep (fun a ha => hg5 a (by omega))
          refine wkX A R5 Hs hq (fun g7 hg7 hm7 => ⟨vp_in_nI (by omega) (by decide), fun g8 e8 => ?_⟩)
          rw [nI_clamp (by omega)] at e8
          have hg8 : ∀ a, a ≠ 11 → g8 a = g7 a := fun a ha => by rw [e8, up2_ne _ _ _ ha]
          refine hB2 _ _ _ hlt2 ⟨nI_1 s, by rw [nI_1, ctn, hmn]; rfl, fun a ha => ?_, fun U hU hmU => ?_, fun T hT => ?_⟩
          · rw [hg8 a (by omega), hg7 a (by omega), hg5 a (by omega), hg1 a ha]
          · rw [hg8 10 (by decide), hg7 10 (by decide), e5, up2_same, e8, up2_same]
            rcases Nat.lt_succ_iff_lt_or_eq.mp hU with r | r
            · have hlt3 := ctn_lt r hmU
              rw [upd_ne _ _ (by omega), upd_ne _ _ (by omega), hg7 11 (by decide), hg5 11 (by decide)]
              exact hL U r hmU
            · subst r
              rw [upd_eq, upd_eq]
              exact ⟨rfl, rfl⟩
          · rw [hg8 12 (by decide)]
            have h7 := hm7 T (by omega)
            rw [inO_iff hMp Hs, hg5 12 (by decide)] at h7
            by_cases hin : inR (tn n k lt c q) s T
            · refine ⟨fun _ => h7.1 hin, fun r => absurd (Or.inr ⟨s, by omega, Hs, hin⟩) r⟩
            · rw [h7.2 hin]
              refine ⟨fun r => (hm T hT).1 (r.imp id (fun ⟨U, hU, hU2, hU3⟩ => ⟨U, ?_, hU2, hU3⟩)), fun r => (hm T hT).2 (fun r2 => r (r2.imp id (fun ⟨U, hU, hU2, hU3⟩ => ⟨U, by omega, hU2, hU3⟩)))⟩
              rcases Nat.lt_succ_iff_lt_or_eq.mp hU with v | v
              · exact v
              · subst v; exact absurd hU3 hin
        · have hmn' : mnb (Hp n lt) (tn n k lt c q) s = false := by simpa using hmn
          have hcase : ¬ Hp n lt s ∨ ∃ U, U < s ∧ Hp n lt U ∧ inR (tn n k lt c q) U s := by
            apply Classical.byContradiction
            intro hc
            refine mnb_f.mp hmn' ⟨Classical.byContradiction (fun r => hc (Or.inl r)), fun U h1 h2 h3 => hc (Or.inr ⟨U, h1, h2, h3⟩)⟩
          have h1 : g1 12 s = 1 := (hm s hlt2).1 hcase
          refine ⟨fun _ => hB2 _ _ _ hlt2 ⟨nI_1 s, by rw [ctn, hmn']; rfl, hg1, fun U hU hmU => ?_, fun T hT => ?_⟩, fun r => absurd r (by rw [h1]; decide)⟩
          · rcases Nat.lt_succ_iff_lt_or_eq.mp hU with r | r
            · exact hL U r hmU
            · subst r; rw [hmn'] at hmU; cases hmU
          · have hiff : (¬ Hp n lt T ∨ ∃ U, U < s + 1 ∧ Hp n lt U ∧ inR (tn n k lt c q) U T) ↔ (¬ Hp n lt T ∨ ∃ U, U < s ∧ Hp n lt U ∧ inR (tn n k lt c q) U T) := by
              constructor
              · rintro (r | ⟨U, hU, hU2, hU3⟩)
                · exact Or.inl r
                · rcases Nat.lt_succ_iff_lt_or_eq.mp hU with v | v
                  · exact Or.inr ⟨U, v, hU2, hU3⟩
                  · subst v
                    rcases hcase with hc | ⟨V, hV, hV2, hV3⟩
                    · exact absurd hU2 hc
                    · exact Or.inr ⟨V, hV, hV2, inR_trans hV3 hU3⟩
              · rintro (r | ⟨U, hU, hU2, hU3⟩)
                · exact Or.inl r
                · exact Or.inr ⟨U, by omega, hU2, hU3⟩
            rw [hiff]; exact hm T hT
    · rcases r with r | ⟨U, hU, -⟩
      · exact (hs T hT).2 r
      · exact absurd hU (Nat.not_lt_zero U)
    · exact (hs T hT).1 (Classical.byContradiction (fun v => r (Or.inl v)))
  · have key : ∀ y : Int32, (y = 0 ∧ Hp n lt i ∨ y = 1 ∧ ¬ Hp n lt i) → vp_in (nI i) 256 ∧ ∀ g_1 : Sg, g_1 = up2 g0 12 (nI i).toNatClampNeg (vp_nar .boolean y) → B (nI i + 1) g_1 := by
      intro y hy
      refine ⟨vp_in_nI (by omega) (by decide), fun g1 e1 => ?_⟩
      have hy2 : vp_nar .boolean y = y := by rcases hy with ⟨rfl, -⟩ | ⟨rfl, -⟩ <;> decide
      rw [nI_clamp (by omega), hy2] at e1
      refine hB _ _ hlt ⟨nI_1 i, fun a ha => by rw [e1, up2_ne _ _ _ (by omega)]; exact hg a ha, fun T hT => ?_⟩
      rw [e1, up2_same]
      rcases Nat.lt_succ_iff_lt_or_eq.mp hT with r | r
      · rw [upd_ne _ _ (by omega)]; exact hs T r
      · subst r
        rw [upd_eq]
        rcases hy with ⟨rfl, hy⟩ | ⟨rfl, hy⟩
        · exact ⟨fun _ => rfl, fun v => absurd hy v⟩
        · exact ⟨fun v => absurd v hy, fun _ => rfl⟩
    exact hX A R0 (by omega) (fun H => y1 (key 0 (Or.inl ⟨rfl, H⟩))) (fun H => y0 (key 1 (Or.inr ⟨rfl, H⟩)))
