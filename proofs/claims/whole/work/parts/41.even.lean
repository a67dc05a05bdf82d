/-! EVEN and STAYS. -/
theorem osum_first (lt : Nat → Nat → Bool) (wt : Nat → Int32) (n q : Nat) (f : Nat → Nat) (S : Nat) : ∀ L, osum lt wt n q f S (L + 1) = ms lt wt q S n + osum lt wt n q f (f S) L
  | 0 => by rw [osum, osum, osum, Int32.zero_add, Int32.add_zero]; rfl
  | L + 1 => by
    rw [osum, osum_first lt wt n q f S L, osum, Int32.add_assoc]
    have e : itf f (L + 1) S = itf f L (f S) := by
      rw [Nat.add_comm, itf_add]; rfl
    rw [e]
theorem osum_step {lt : Nat → Nat → Bool} {wt : Nat → Int32} {n q : Nat} {f : Nat → Nat} {S L : Nat} (h : itf f L S = S) : osum lt wt n q f (f S) L = osum lt wt n q f S L := by
  have h1 := osum_first lt wt n q f S L
  rw [osum, h, Int32.add_comm] at h1
  exact ((Int32.add_right_inj _).mp h1).symm
theorem osum_inv {p : Nat → Prop} {N : Nat} {f : Nat → Nat} (h : Mp p N f) {lt : Nat → Nat → Bool} {wt : Nat → Int32} {n q : Nat} {S T : Nat} (hS : p S) (r : inR f S T) : osum lt wt n q f T (per f T) = osum lt wt n q f S (per f S) := by
  rw [per_eq h hS r]
  obtain ⟨t, rfl⟩ := r
  induction t with
  | zero => rfl
  | succ t ih =>
    rw [itf, osum_step, ih]
    rw [← itf_add, Nat.add_comm, itf_add, (per_spec h hS).2.2.1]
theorem mn_ex {p : Nat → Prop} {f : Nat → Nat} : ∀ S, p S → ∃ U, U ≤ S ∧ mnb p f U = true ∧ inR f U S := by
  intro S
  induction S using Nat.strongRecOn with
  | _ S ih =>
    intro hS
    by_cases hm : mnb p f S = true
    · exact ⟨S, Nat.le_refl S, hm, inR_self f S⟩
    · have hm' : mnb p f S = false := by simpa using hm
      have : ∃ U, U < S ∧ p U ∧ inR f U S := by
        apply Classical.byContradiction
        intro hn
        exact mnb_f.mp hm' ⟨hS, fun U h1 h2 h3 => hn ⟨U, h1, h2, h3⟩⟩
      obtain ⟨U, h1, h2, h3⟩ := this
      obtain ⟨V, v1, v2, v3⟩ := ih U h1 h2
      exact ⟨V, by omega, v2, inR_trans v3 h3⟩
theorem Hp0 (n : Nat) (lt : Nat → Nat → Bool) : Hp n lt 0 := ⟨Nat.two_pow_pos n, fun i k _ h => by simp at h⟩
theorem mn0 (n : Nat) (lt : Nat → Nat → Bool) (f : Nat → Nat) : mnb (Hp n lt) f 0 = true := mnb_t.mpr ⟨Hp0 n lt, fun U hU => absurd hU (Nat.not_lt_zero U)⟩
/-- one mean with the first round -/
def Ev (lt : Nat → Nat → Bool) (wt : Nat → Int32) (n q : Nat) (f : Nat → Nat) (S : Nat) : Prop := osum lt wt n q f S (per f S) * nI (per f 0) = osum lt wt n q f 0 (per f 0) * nI (per f S)
theorem Ev_inv {p : Nat → Prop} {N : Nat} {f : Nat → Nat} (h : Mp p N f) {lt : Nat → Nat → Bool} {wt : Nat → Int32} {n q : Nat} {S T : Nat} (hS : p S) (r : inR f S T) : Ev lt wt n q f T ↔ Ev lt wt n q f S := by
  unfold Ev
  rw [osum_inv h hS r, per_eq h hS r]
theorem evX {P : Int32 → Sg → Prop} {n k : Nat} {lt : Nat → Nat → Bool} {c : Nat → Nat} {wt : Nat → Int32} {tc cl : Int32} {tr : Int64} {g : Sg} (A : AS n k lt c wt) (R : RX n k lt c wt tc cl g) {q r : Nat} (hq : q < 2) (hr : r < 3)
    (h1 : (∀ S, Hp n lt S → Ev lt wt n r (tn n k lt c q) S) → ∀ g2 : Sg, (∀ a, a < 7 → g2 a = g a) → P 1 g2) (h0 : (¬ ∀ S, Hp n lt S → Ev lt wt n r (tn n k lt c q) S) → ∀ g2 : Sg, (∀ a, a < 7 → g2 a = g a) → P 0 g2) : wX_even P tc cl tr g (nI q) (nI r) := by
  have hMp := Mp_tn A q
  have hp8 := pw8 A.2.1
  have hcl := ctn_le (mnb (Hp n lt) (tn n k lt c q)) (2 ^ n)
  have hN : 0 < 2 ^ n := Nat.two_pow_pos n
  obtain ⟨p1, p2, -, -⟩ := per_spec hMp (Hp0 n lt)
  unfold wX_even
  refine kX_y hq (z1 (mkX_y hr (y1 (foX A R hq (fun g5 hg5 hL => ?_)))))
  have R5 : RX n k lt c wt tc cl g5 := R.keep hg5
  have hL0 := hL 0 hN (mn0 n lt _)
  have hin0 : vp_in (0 : Int32) 256 := vp_in_nI (n := 0) (by decide) (by decide)
  have hc0 : ((0 : Int32)).toNatClampNeg = 0 := nI_clamp (n := 0) (by decide)
  refine ⟨hin0, fun x4 e4 => ⟨hin0, ?_⟩⟩
  have e10 : g5 10 0 = nI 0 := hL0.1
  have e11 : g5 11 0 = nI (per (tn n k lt c q) 0) := hL0.2
  rw [hc0, e11] at e4
  rw [hc0, e10, e4]
  refine soX A R5 (Hp0 n lt) hq hr (by omega) ?_
  have hf1 : 1 ≤ ctn (mnb (Hp n lt) (tn n k lt c q)) (2 ^ n) := by
    have := ctn_lt (p := mnb (Hp n lt) (tn n k lt c q)) hN (mn0 n lt _)
    omega
  refine Lp2_up (fun j x6 g0 => x6 = nI j ∧ 1 ≤ j ∧ g0 = g5 ∧ ∀ U, U < 2 ^ n → mnb (Hp n lt) (tn n k lt c q) U = true → ctn (mnb (Hp n lt) (tn n k lt c q)) U < j → Ev lt wt n r (tn n k lt c q) U) (ctn (mnb (Hp n lt) (tn n k lt c q)) (2 ^ n)) ?_ 1 1 g5 hf1 ⟨rfl, Nat.le_refl 1, rfl, fun U hU hmU hc => ?_⟩
  · rintro j x6 g0 hj ⟨rfl, hj1, rfl, hE⟩ B hB
    unfold wX_even_b49
    refine br_le (by omega) (by omega) (fun u => ?_) (fun hlt => ⟨vp_in_nI (by omega) (by decide), vp_in_nI (by omega) (by decide), ?_⟩)
    · refine h1 (fun S hS => ?_) g0 hg5
      obtain ⟨U, hU, hmU, hUS⟩ := mn_ex (f := tn n k lt c q) S hS
      have HU := (mnb_t.mp hmU).1
      rw [Ev_inv hMp HU hUS]
      have hlt2 := ctn_lt (b := 2 ^ n) (by have := HU.1; omega) hmU
      exact hE U HU.1 hmU (by omega)
    · obtain ⟨U, hU, hmU, hcU⟩ := ctn_kth hlt
      obtain ⟨HU, -⟩ := mnb_t.mp hmU
      obtain ⟨q1, q2, -, -⟩ := per_spec hMp HU
      have hLU := hL U hU hmU
      rw [hcU] at hLU
      rw [nI_clamp (by omega), hLU.1, hLU.2]
      refine soX A R5 HU hq hr (by omega) ⟨vp_in_nI (by omega) (by decide), fun u => hB _ _ hlt ⟨nI_1 j, by omega, rfl, fun V hV hmV hcV => ?_⟩, fun u => h0 (fun hall => u (hall U HU)) g0 hg5⟩
      rcases Nat.lt_succ_iff_lt_or_eq.mp hcV with v | v
      · exact hE V hV hmV v
      · have : V = U := ctn_inj hmV hmU (by omega)
        subst this; exact u
  · have hU0 : U = 0 := ctn_inj hmU (mn0 n lt _) (by rw [show ctn (mnb (Hp n lt) (tn n k lt c q)) 0 = 0 from rfl]; omega)
    subst hU0
    rfl
theorem evM {P : Int32 → Prop} {n k : Nat} {lt : Nat → Nat → Bool} {c : Nat → Nat} {wt : Nat → Int32} {tc cl : Int32} {tr : Int64} {g : Sg} (A : AS n k lt c wt) (R : RM n k lt c wt tc cl g) {q r : Nat} (hq : q < 2) (hr : r < 3)
    (h1 : (∀ S, Hp n lt S → Ev lt wt n r (tn n k lt c q) S) → P 1) (h0 : (¬ ∀ S, Hp n lt S → Ev lt wt n r (tn n k lt c q) S) → P 0) : wM_even P tc cl tr g (nI q) (nI r) := by
  have hp8 := pw8 A.2.1
  have b2 := A.2.1
  have hN : 0 < 2 ^ n := Nat.two_pow_pos n
  unfold wM_even
  refine kM_y hq (z1 ?_)
  refine inY (a := 0) (b := 2) (by omega) (by omega) (by decide) (y1 ?_)
  refine soM (S := 0) A R (Hp0 n lt) hq hr ?_
  refine obM (S := 0) A R (Hp0 n lt) hq ?_
  have etc := R.1
  subst etc
  refine Lp2_up (fun s x5 x6 => x6 = nI s ∧ 1 ≤ s ∧ (x5 = 0 ∧ (¬ ∀ S, Hp n lt S → Ev lt wt n r (tn n k lt c q) S) ∨ x5 = 1 ∧ ∀ S, S < s → Hp n lt S → Ev lt wt n r (tn n k lt c q) S)) (2 ^ n) ?_ 1 1 1 (by omega) ⟨rfl, Nat.le_refl 1, Or.inr ⟨rfl, fun S hS _ => ?_⟩⟩
  · rintro s x5 x6 hs ⟨rfl, hs1, hI⟩ B hB
    unfold wM_even_b40 wM_even_j92 wM_even_j88
    rw [sh1 n (by omega)]
    refine br_le (by omega) (by omega) (fun u => ?_) (fun hlt => ?_)
    · rcases hI with ⟨rfl, hI⟩ | ⟨rfl, hI⟩
      · exact z0 (h0 hI)
      · exact z1 (h1 (fun S hS => hI S (by have := hS.1; omega) hS))
    · rcases hI with ⟨rfl, hI⟩ | ⟨rfl, hI⟩
      · exact z0 (hB _ _ hlt ⟨nI_1 s, by omega, Or.inl ⟨rfl, hI⟩⟩)
      · have hgo : (Hp n lt s → Ev lt wt n r (tn n k lt c q) s) → B 1 (nI s + 1) := fun u => hB _ _ hlt ⟨nI_1 s, by omega, Or.inr ⟨rfl, fun S hS HS => by
          rcases Nat.lt_succ_iff_lt_or_eq.mp hS with v | v
          · exact hI S v HS
          · subst v; exact u HS⟩⟩
        refine z1 (hM A R (by omega) (fun Hs => z1 ?_) (fun Hs => z0 (hgo (fun u => absurd u Hs))))
        refine soM A R Hs hq hr ?_
        refine obM A R Hs hq ?_
        exact ⟨fun u => hB _ _ hlt ⟨nI_1 s, by omega, Or.inl ⟨rfl, fun v => u (v s Hs)⟩⟩, fun u => hgo (fun _ => u)⟩
  · rw [show S = 0 by omega]; rfl
theorem st_even : Step_even Rel := by
  intro tc cl tr g tc' cl' tr' g' a1 a2 hR
  obtain ⟨n, k, lt, c, wt, A, X, M, e⟩ := id hR
  by_cases h1 : ∃ j, j < 2 ∧ a1 = nI j
  · obtain ⟨q, hq, rfl⟩ := h1
    by_cases h2 : ∃ j, j < 3 ∧ a2 = nI j
    · obtain ⟨r, hr, rfl⟩ := h2
      refine evX A X hq hr (fun hE g2 hg => ?_) (fun hE g2 hg => ?_)
      · exact evM A M hq hr (fun _ => ⟨rfl, Rel.scrX A X M e hg (fun _ _ => rfl)⟩) (fun u => absurd hE u)
      · exact evM A M hq hr (fun u => absurd u hE) (fun _ => ⟨rfl, Rel.scrX A X M e hg (fun _ _ => rfl)⟩)
    · have hx : ∀ j, j < 3 → a2 ≠ nI j := fun j hj q => h2 ⟨j, hj, q⟩
      unfold wX_even
      refine kX_y hq (z1 (mkX_n hx (y0 ?_)))
      exact kM_y hq (z1 (inN (a := 0) (b := 2) (by decide) (by decide) (fun i _ u => hx i (by omega)) (y0 ⟨rfl, hR⟩)))
  · have hx : ∀ j, j < 2 → a1 ≠ nI j := fun j hj q => h1 ⟨j, hj, q⟩
    unfold wX_even
    exact kX_n hx (z0 (kM_n hx (z0 ⟨rfl, hR⟩)))
/-! how many heaps are themselves behind j turns -/
theorem ctn_or {a b : Nat → Bool} : ∀ {n : Nat}, (∀ i, i < n → ¬ (a i = true ∧ b i = true)) → ctn (fun i => a i || b i) n = ctn a n + ctn b n
  | 0, _ => rfl
  | n + 1, h => by
    have h1 := ctn_or (n := n) (fun i hi => h i (by omega))
    have h2 := h n (by omega)
    rw [ctn, ctn, ctn, h1]
    cases ha : a n <;> cases hb : b n <;> simp_all <;> omega
theorem ctn_one {x : Nat} : ∀ {n : Nat}, x < n → ctn (fun i => decide (i = x)) n = 1
  | 0, h => absurd h (Nat.not_lt_zero x)
  | n + 1, h => by
    rw [ctn]
    rcases Nat.lt_succ_iff_lt_or_eq.mp h with q | q
    · rw [ctn_one q]; simp; omega
    · subst q
      have : ctn (fun i => decide (i = x)) x = 0 := by
        have : ∀ m, m ≤ x → ctn (fun i => decide (i = x)) m = 0 := by
          intro m
          induction m with
          | zero => intro _; rfl
          | succ m ih => intro hm; rw [ctn, ih (by omega)]; simp; omega
        exact this x (Nat.le_refl x)
      rw [this]; simp
theorem ctn_0 {p : Nat → Bool} : ∀ {n : Nat}, (∀ i, i < n → p i = false) → ctn p n = 0
  | 0, _ => rfl
  | n + 1, h => by rw [ctn, ctn_0 (fun i hi => h i (by omega)), h n (by omega)]; rfl
noncomputable def pdec (q : Prop) : Bool := @decide q (Classical.propDecidable _)
theorem pdec_t {q : Prop} : pdec q = true ↔ q := by unfold pdec; exact @decide_eq_true_iff _ (Classical.propDecidable _)
theorem pdec_f {q : Prop} : pdec q = false ↔ ¬ q := by
  constructor
  · intro h r
    rw [pdec_t.mpr r] at h; cases h
  · intro h
    cases hb : pdec q with
    | false => rfl
    | true => exact absurd (pdec_t.mp hb) h
theorem ctn_inO {p : Nat → Prop} {N : Nat} {f : Nat → Nat} (h : Mp p N f) {x : Nat} (hx : p x) : ∀ t, t ≤ per f x → ctn (fun T => pdec (inO f x t T)) N = t
  | 0, _ => ctn_0 (fun i _ => pdec_f.mpr (fun ⟨s, hs, _⟩ => absurd hs (Nat.not_lt_zero s)))
  | t + 1, ht => by
    have ih := ctn_inO h hx t (by omega)
    have e : ctn (fun T => pdec (inO f x (t + 1) T)) N = ctn (fun T => pdec (inO f x t T) || decide (T = itf f t x)) N := by
      apply ctn_cong
      intro T _
      apply bool_ext
      rw [pdec_t, Bool.or_eq_true, pdec_t, decide_eq_true_iff]
      constructor
      · rintro ⟨s, hs, es⟩
        rcases Nat.lt_succ_iff_lt_or_eq.mp hs with q | q
        · exact Or.inl ⟨s, q, es⟩
        · subst q; exact Or.inr es.symm
      · rintro (⟨s, hs, es⟩ | q)
        · exact ⟨s, by omega, es⟩
        · exact ⟨t, by omega, q.symm⟩
    rw [e, ctn_or, ih, ctn_one (h.2.2 _ (itf_p h hx t))]
    rintro T hT ⟨q1, q2⟩
    rw [pdec_t] at q1
    rw [decide_eq_true_iff] at q2
    obtain ⟨s, hs, es⟩ := q1
    rw [q2] at es
    exact (per_spec h hx).2.2.2 (t - s) (by omega) (by omega) (itf_back h hx (by omega) es)
theorem stays_eq {p : Nat → Prop} {N : Nat} {f : Nat → Nat} (h : Mp p N f) (J : Nat) : FS (mnb p f) (fun a U => if J % per f U = 0 then a + per f U else a) 0 N = ctn (fun T => pdec (p T ∧ J % per f T = 0)) N := by
  have key : ∀ s, FS (mnb p f) (fun a U => if J % per f U = 0 then a + per f U else a) 0 s = ctn (fun T => pdec ((∃ U, U < s ∧ p U ∧ inR f U T) ∧ J % per f T = 0)) N := by
    intro s
    induction s with
    | zero =>
      rw [FS]
      exact (ctn_0 (fun T _ => pdec_f.mpr (fun ⟨⟨U, hU, _⟩, _⟩ => absurd hU (Nat.not_lt_zero U)))).symm
    | succ s ih =>
      rw [FS]
      by_cases hmn : mnb p f s = true
      · rw [hmn]
        simp only [↓reduceIte]
        obtain ⟨Hs, hno⟩ := mnb_t.mp hmn
        by_cases hJ : J % per f s = 0
        · rw [if_pos hJ, ih]
          have e : ctn (fun T => pdec ((∃ U, U < s + 1 ∧ p U ∧ inR f U T) ∧ J % per f T = 0)) N = ctn (fun T => pdec ((∃ U, U < s ∧ p U ∧ inR f U T) ∧ J % per f T = 0) || pdec (inO f s (per f s) T)) N := by
            apply ctn_cong
            intro T _
            apply bool_ext
            rw [pdec_t, Bool.or_eq_true, pdec_t, pdec_t, inO_iff h Hs]
            constructor
            · rintro ⟨⟨U, hU, hU2, hU3⟩, hT⟩
              rcases Nat.lt_succ_iff_lt_or_eq.mp hU with v | v
              · exact Or.inl ⟨⟨U, v, hU2, hU3⟩, hT⟩
              · subst v; exact Or.inr hU3
            · rintro (⟨⟨U, hU, hU2, hU3⟩, hT⟩ | v)
              · exact ⟨⟨U, by omega, hU2, hU3⟩, hT⟩
              · exact ⟨⟨s, by omega, Hs, v⟩, by rw [per_eq h Hs v]; exact hJ⟩
          rw [e, ctn_or, ctn_inO h Hs _ (Nat.le_refl _)]
          rintro T hT ⟨q1, q2⟩
          rw [pdec_t] at q1 q2
          rw [inO_iff h Hs] at q2
          obtain ⟨⟨U, hU, hU2, hU3⟩, -⟩ := q1
          exact hno U hU hU2 (inR_trans hU3 (inR_sym h Hs q2))
        · rw [if_neg hJ, ih]
          apply ctn_cong
          intro T _
          apply bool_ext
          rw [pdec_t, pdec_t]
          constructor
          · rintro ⟨⟨U, hU, hU2, hU3⟩, hT⟩; exact ⟨⟨U, by omega, hU2, hU3⟩, hT⟩
          · rintro ⟨⟨U, hU, hU2, hU3⟩, hT⟩
            rcases Nat.lt_succ_iff_lt_or_eq.mp hU with v | v
            · exact ⟨⟨U, v, hU2, hU3⟩, hT⟩
            · subst v; rw [per_eq h hU2 hU3] at hT; exact absurd hT hJ
      · have hmn' : mnb p f s = false := by simpa using hmn
        rw [hmn']
        simp only [Bool.false_eq_true, ↓reduceIte]
        rw [ih]
        apply ctn_cong
        intro T _
        apply bool_ext
        rw [pdec_t, pdec_t]
        constructor
        · rintro ⟨⟨U, hU, hU2, hU3⟩, hT⟩; exact ⟨⟨U, by omega, hU2, hU3⟩, hT⟩
        · rintro ⟨⟨U, hU, hU2, hU3⟩, hT⟩
          rcases Nat.lt_succ_iff_lt_or_eq.mp hU with v | v
          · exact ⟨⟨U, v, hU2, hU3⟩, hT⟩
          · subst v
            have : ∃ V, V < U ∧ p V ∧ inR f V U := by
              apply Classical.byContradiction
              intro hn
              exact mnb_f.mp hmn' ⟨hU2, fun V h1 h2 h3 => hn ⟨V, h1, h2, h3⟩⟩
            obtain ⟨V, v1, v2, v3⟩ := this
            exact ⟨⟨V, v1, v2, inR_trans v3 hU3⟩, hT⟩
  rw [key N]
  apply ctn_cong
  intro T hT
  apply bool_ext
  rw [pdec_t, pdec_t]
  constructor
  · rintro ⟨⟨U, hU, hU2, hU3⟩, hT⟩; exact ⟨inR_p h hU2 hU3, hT⟩
  · rintro ⟨h1, h2⟩; exact ⟨⟨T, hT, h1, inR_self f T⟩, h2⟩
theorem rem0 {J L : Nat} (hJ : J < 2 ^ 31) (h0 : 0 < L) (hL : L < 2 ^ 31) : (nI J - nI J / nI L * nI L = 0) ↔ J % L = 0 := by
  rw [pk_rem hJ h0 hL, ← nI_0]
  exact nI_eq (by have := Nat.mod_le J L; omega) (by decide)
theorem syX {P : Int32 → Sg → Prop} {n k : Nat} {lt : Nat → Nat → Bool} {c : Nat → Nat} {wt : Nat → Int32} {tc cl : Int32} {tr : Int64} {g : Sg} (A : AS n k lt c wt) (R : RX n k lt c wt tc cl g) {q J : Nat} (hq : q < 2) (hJ : J ≤ 1000)
    (h : ∀ g2 : Sg, (∀ a, a < 7 → g2 a = g a) → P (nI (ctn (fun T => pdec (Hp n lt T ∧ J % per (tn n k lt c q) T = 0)) (2 ^ n))) g2) : wX_stays P tc cl tr g (nI q) (nI J) := by
  have hMp := Mp_tn A q
  have hp8 := pw8 A.2.1
  have hcl := ctn_le (mnb (Hp n lt) (tn n k lt c q)) (2 ^ n)
  unfold wX_stays
  refine kX_y hq (z1 (nX_y hJ (y1 (foX A R hq (fun g6 hg6 hL => ?_)))))
  refine Lp3_up (fun j x4 x5 g0 => x5 = nI j ∧ g0 = g6 ∧ ∃ s, s ≤ 2 ^ n ∧ ctn (mnb (Hp n lt) (tn n k lt c q)) s = j ∧ x4 = nI (FS (mnb (Hp n lt) (tn n k lt c q)) (fun a U => if J % per (tn n k lt c q) U = 0 then a + per (tn n k lt c q) U else a) 0 s)) (ctn (mnb (Hp n lt) (tn n k lt c q)) (2 ^ n)) ?_ 0 0 0 g6 (Nat.zero_le _) ⟨rfl, rfl, 0, by omega, rfl, rfl⟩
  rintro j x4 x5 g0 hj ⟨rfl, rfl, s, hs, hcs, rfl⟩ B hB
  unfold wX_stays_b28
  refine br_le (by omega) (by omega) (fun u => ?_) (fun hlt => ⟨vp_in_nI (by omega) (by decide), fun x6 e6 => ?_⟩)
  · have h2 := h g0 hg6
    rw [← stays_eq hMp, FS_at hs (by omega)] at h2
    exact h2
  · obtain ⟨U, hU, hmU, hcU⟩ := ctn_kth hlt
    obtain ⟨HU, -⟩ := mnb_t.mp hmU
    obtain ⟨p1, p2, -, -⟩ := per_spec hMp HU
    have hFS : FS (mnb (Hp n lt) (tn n k lt c q)) (fun a U => if J % per (tn n k lt c q) U = 0 then a + per (tn n k lt c q) U else a) 0 U = FS (mnb (Hp n lt) (tn n k lt c q)) (fun a U => if J % per (tn n k lt c q) U = 0 then a + per (tn n k lt c q) U else a) 0 s := by
      rcases Nat.lt_or_ge U s with v | v
      · have := ctn_lt v hmU; omega
      · exact FS_at v (by omega)
    have hLU := (hL U hU hmU).2
    rw [hcU] at hLU
    rw [nI_clamp (by omega), hLU] at e6
    subst e6
    have hcs1 : ctn (mnb (Hp n lt) (tn n k lt c q)) (U + 1) = j + 1 := by rw [ctn, hmU, hcU]; rfl
    refine br_le (a := per (tn n k lt c q) U) (b := 0) (by omega) (by decide) (fun u => absurd u (by omega)) (fun _ => ⟨nI_ne0 (by omega) (by omega), fun u => ?_, fun u x4 e4 => ?_⟩)
    · rw [rem0 (by omega) (by omega) (by omega)] at u
      exact hB _ _ _ hlt ⟨nI_1 j, rfl, U + 1, by omega, hcs1, by rw [FS, hmU, hFS]; simp [u]⟩
    · rw [rem0 (by omega) (by omega) (by omega)] at u
      exact hB _ _ _ hlt ⟨nI_1 j, rfl, U + 1, by omega, hcs1, by rw [e4, nI_add, FS, hmU, hFS]; simp [u]⟩
theorem syM {P : Int32 → Prop} {n k : Nat} {lt : Nat → Nat → Bool} {c : Nat → Nat} {wt : Nat → Int32} {tc cl : Int32} {tr : Int64} {g : Sg} (A : AS n k lt c wt) (R : RM n k lt c wt tc cl g) {q J : Nat} (hq : q < 2) (hJ : J ≤ 1000)
    (h : P (nI (ctn (fun T => pdec (Hp n lt T ∧ J % per (tn n k lt c q) T = 0)) (2 ^ n)))) : wM_stays P tc cl tr g (nI q) (nI J) := by
  have hMp := Mp_tn A q
  have hp8 := pw8 A.2.1
  have b2 := A.2.1
  unfold wM_stays
  refine kM_y hq (z1 ?_)
  refine inY (a := 0) (b := 1000) (by omega) (by omega) (by decide) (y1 ?_)
  have etc := R.1
  subst etc
  refine Lp2_up (fun s x3 x4 => x4 = nI s ∧ x3 = nI (ctn (fun T => pdec (Hp n lt T ∧ J % per (tn n k lt c q) T = 0)) s)) (2 ^ n) ?_ 0 0 0 (Nat.zero_le _) ⟨rfl, rfl⟩
  rintro s x3 x4 hs ⟨rfl, rfl⟩ B hB
  unfold wM_stays_b25 wM_stays_j62 wM_stays_j63
  rw [sh1 n (by omega)]
  refine br_le (by omega) (by omega) (fun u => ?_) (fun hlt => ?_)
  · rw [show s = 2 ^ n by omega]; exact h
  have h0 : ¬ (Hp n lt s ∧ J % per (tn n k lt c q) s = 0) → ∀ x3_1 : Int32, x3_1 = nI (ctn (fun T => pdec (Hp n lt T ∧ J % per (tn n k lt c q) T = 0)) s) + 0 → B x3_1 (nI s + 1) := fun u x e => hB _ _ hlt ⟨nI_1 s, by rw [e, ctn, pdec_f.mpr u, Int32.add_zero]; rfl⟩
  refine hM A R (by omega) (fun Hs => z1 ?_) (fun Hs => z0 (h0 (fun u => Hs u.1)))
  obtain ⟨p1, p2, -, -⟩ := per_spec hMp Hs
  refine obM A R Hs hq ⟨nI_ne0 (by omega) (by omega), fun u => ?_, fun u x e => ?_⟩
  · rw [rem0 (by omega) (by omega) (by omega)] at u
    exact h0 (fun v => u v.2)
  · rw [rem0 (by omega) (by omega) (by omega)] at u
    exact hB _ _ hlt ⟨nI_1 s, by rw [e, nI_1, ctn, pdec_t.mpr ⟨Hs, u⟩]; rfl⟩
theorem st_stays : Step_stays Rel := by
  intro tc cl tr g tc' cl' tr' g' a1 a2 hR
  obtain ⟨n, k, lt, c, wt, A, X, M, e⟩ := id hR
  by_cases h1 : ∃ j, j < 2 ∧ a1 = nI j
  · obtain ⟨q, hq, rfl⟩ := h1
    by_cases h2 : ∃ j, j ≤ 1000 ∧ a2 = nI j
    · obtain ⟨J, hJ, rfl⟩ := h2
      exact syX A X hq hJ (fun g2 hg => syM A M hq hJ ⟨rfl, Rel.scrX A X M e hg (fun _ _ => rfl)⟩)
    · have hx : ∀ j, j ≤ 1000 → a2 ≠ nI j := fun j hj q => h2 ⟨j, hj, q⟩
      unfold wX_stays
      refine kX_y hq (z1 (nX_n hx (y0 ?_)))
      exact kM_y hq (z1 (inN (a := 0) (b := 1000) (by decide) (by decide) (fun i _ u => hx i u) (y0 ⟨rfl, hR⟩)))
  · have hx : ∀ j, j < 2 → a1 ≠ nI j := fun j hj q => h1 ⟨j, hj, q⟩
    unfold wX_stays
    exact kX_n hx (z0 (kM_n hx (z0 ⟨rfl, hR⟩)))
