/-! HOW MANY FILLINGS: rows of heaps, each within the one before, against numbers by their digits. -/
def sm (F : Nat → Nat) : Nat → Nat
  | 0 => 0
  | n + 1 => sm F n + F n
theorem sm_cong {F G : Nat → Nat} : ∀ {n : Nat}, (∀ i, i < n → F i = G i) → sm F n = sm G n
  | 0, _ => rfl
  | n + 1, h => by rw [sm, sm, sm_cong (fun i hi => h i (by omega)), h n (by omega)]
theorem sm_add (F G : Nat → Nat) : ∀ n, sm (fun i => F i + G i) n = sm F n + sm G n
  | 0 => rfl
  | n + 1 => by rw [sm, sm, sm, sm_add F G n]; omega
theorem sm_0 {F : Nat → Nat} : ∀ {n : Nat}, (∀ i, i < n → F i = 0) → sm F n = 0
  | 0, _ => rfl
  | n + 1, h => by rw [sm, sm_0 (fun i hi => h i (by omega)), h n (by omega)]
theorem sm_one {F : Nat → Nat} {x : Nat} : ∀ {n : Nat}, x < n → (∀ i, i < n → i ≠ x → F i = 0) → sm F n = F x
  | 0, h, _ => absurd h (Nat.not_lt_zero x)
  | n + 1, h, h2 => by
    rw [sm]
    rcases Nat.lt_succ_iff_lt_or_eq.mp h with q | q
    · rw [sm_one q (fun i hi hne => h2 i (by omega) hne), h2 n (by omega) (by omega)]; omega
    · subst q
      rw [sm_0 (fun i hi => h2 i (by omega) (by omega))]; omega
theorem sm_ct (p : Nat → Bool) : ∀ n, sm (fun i => if p i then 1 else 0) n = ctn p n
  | 0 => rfl
  | n + 1 => by rw [sm, ctn, sm_ct p n]
/-- a count, by the values of s -/
theorem part_ct {p : Nat → Prop} {s : Nat → Nat} {N : Nat} : ∀ M, sm (fun S => ctn (fun f => pdec (p f ∧ s f = S)) N) M = ctn (fun f => pdec (p f ∧ s f < M)) N
  | 0 => by rw [sm]; exact (ctn_0 (fun f _ => pdec_f.mpr (fun q => absurd q.2 (Nat.not_lt_zero _)))).symm
  | M + 1 => by
    rw [sm, part_ct M, ← ctn_or]
    · apply ctn_cong
      intro f _
      apply bool_ext
      rw [Bool.or_eq_true, pdec_t, pdec_t, pdec_t]
      constructor
      · rintro (⟨a, b⟩ | ⟨a, b⟩)
        · exact ⟨a, by omega⟩
        · exact ⟨a, by omega⟩
      · rintro ⟨a, b⟩
        rcases Nat.lt_succ_iff_lt_or_eq.mp b with q | q
        · exact Or.inl ⟨a, q⟩
        · exact Or.inr ⟨a, q⟩
    · rintro f _ ⟨a, b⟩
      rw [pdec_t] at a b
      omega
theorem ctn_map {p q : Nat → Bool} {N M : Nat} (φ : Nat → Nat) (h1 : ∀ x, x < N → p x = true → φ x < M ∧ q (φ x) = true) (h2 : ∀ x y, x < N → y < N → p x = true → p y = true → φ x = φ y → x = y) : ctn p N ≤ ctn q M := by
  have sel : ∀ j, ∃ i, j < ctn p N → i < N ∧ p i = true ∧ ctn p i = j := by
    intro j
    by_cases hj : j < ctn p N
    · obtain ⟨i, hi⟩ := ctn_kth hj
      exact ⟨i, fun _ => hi⟩
    · exact ⟨0, fun h => absurd h hj⟩
  refine fb_holes _ _ (fun j => ctn q (φ (Classical.choose (sel j)))) (fun j hj => ?_) (fun i j hij hj e => ?_)
  · obtain ⟨a, b, -⟩ := Classical.choose_spec (sel j) hj
    obtain ⟨c1, c2⟩ := h1 _ a b
    exact ctn_lt c1 c2
  · obtain ⟨a, b, c⟩ := Classical.choose_spec (sel j) hj
    obtain ⟨a', b', c'⟩ := Classical.choose_spec (sel i) (by omega)
    have e2 := ctn_inj (h1 _ a' b').2 (h1 _ a b).2 e
    have e3 := h2 _ _ a' a b' b e2
    rw [e3] at c'
    omega
def dig (B f i : Nat) : Nat := f / B ^ i % B
def num (B : Nat) (d : Nat → Nat) : Nat → Nat
  | 0 => 0
  | n + 1 => num B d n + d n * B ^ n
theorem num_lt {B : Nat} {d : Nat → Nat} (h : ∀ i, d i < B) : ∀ n, num B d n < B ^ n
  | 0 => by simp [num]
  | n + 1 => by
    have ih := num_lt h n
    have h1 := h n
    rw [num, Nat.pow_succ]
    have h2 : d n * B ^ n + B ^ n ≤ B ^ n * B := by
      rw [← Nat.succ_mul, Nat.mul_comm]
      exact Nat.mul_le_mul_left _ h1
    omega
theorem num_dig {B : Nat} {d : Nat → Nat} (h : ∀ i, d i < B) : ∀ n i, i < n → dig B (num B d n) i = d i
  | 0, i, hi => absurd hi (Nat.not_lt_zero i)
  | n + 1, i, hi => by
    have hB : 0 < B := by have := h 0; omega
    have hp : ∀ m, 0 < B ^ m := fun m => Nat.pow_pos hB
    rcases Nat.lt_succ_iff_lt_or_eq.mp hi with q | q
    · have ih := num_dig h n i q
      unfold dig at ih ⊢
      rw [num]
      have e : B ^ n = B ^ i * (B * B ^ (n - i - 1)) := by
        rw [← Nat.pow_succ', ← Nat.pow_add]; congr 1; omega
      have e2 : d n * B ^ n = B ^ i * (B * (B ^ (n - i - 1) * d n)) := by
        rw [e, Nat.mul_comm (d n)]; simp [Nat.mul_assoc]
      rw [e2, Nat.add_mul_div_left _ _ (hp i), Nat.add_mul_mod_self_left]
      exact ih
    · subst q
      unfold dig
      rw [num, Nat.add_mul_div_right _ _ (hp i), Nat.div_eq_of_lt (num_lt h i), Nat.zero_add, Nat.mod_eq_of_lt (h i)]
theorem dig_num {B : Nat} (hB : 0 < B) : ∀ n f, f < B ^ n → num B (dig B f) n = f
  | 0, f, h => by simp at h; rw [num]; omega
  | n + 1, f, h => by
    have hp : 0 < B ^ n := Nat.pow_pos hB
    have e1 : num B (dig B f) n = num B (dig B (f % B ^ n)) n := by
      have : ∀ m, m ≤ n → num B (dig B f) m = num B (dig B (f % B ^ n)) m := by
        intro m
        induction m with
        | zero => intro _; rfl
        | succ m ih =>
          intro hm
          rw [num, num, ih (by omega)]
          congr 2
          unfold dig
          have e : B ^ n = B ^ m * (B * B ^ (n - m - 1)) := by
            rw [← Nat.pow_succ', ← Nat.pow_add]; congr 1; omega
          have hd : f = B ^ n * (f / B ^ n) + f % B ^ n := (Nat.div_add_mod f _).symm
          have e3 : f = f % B ^ n + B ^ m * (B * (B ^ (n - m - 1) * (f / B ^ n))) := by
            have hz : ∀ z, B ^ n * z = B ^ m * (B * (B ^ (n - m - 1) * z)) := fun z => by rw [e]; simp [Nat.mul_assoc]
            have := hz (f / B ^ n)
            omega
          have e4 : f / B ^ m = f % B ^ n / B ^ m + B * (B ^ (n - m - 1) * (f / B ^ n)) := by
            conv => lhs; rw [e3]
            exact Nat.add_mul_div_left _ _ (Nat.pow_pos hB)
          rw [e4, Nat.add_mul_mod_self_left]
      exact this n (Nat.le_refl n)
    rw [num, e1, dig_num hB n _ (Nat.mod_lt f hp)]
    have h2 : f / B ^ n < B := by
      rw [Nat.div_lt_iff_lt_mul hp, Nat.mul_comm, ← Nat.pow_succ]; exact h
    unfold dig
    rw [Nat.mod_eq_of_lt h2, Nat.mul_comm]
    exact Nat.mod_add_div f _
theorem dig_lt {B f i : Nat} (hB : 0 < B) : dig B f i < B := Nat.mod_lt _ hB
theorem dig_ext {B n f f' : Nat} (hB : 0 < B) (h : f < B ^ n) (h' : f' < B ^ n) (e : ∀ i, i < n → dig B f i = dig B f' i) : f = f' := by
  rw [← dig_num hB n f h, ← dig_num hB n f' h']
  have : ∀ m, m ≤ n → num B (dig B f) m = num B (dig B f') m := by
    intro m
    induction m with
    | zero => intro _; rfl
    | succ m ih => intro hm; rw [num, num, ih (by omega), e m (by omega)]
  exact this n (Nat.le_refl n)
/-- a filling, by its digits -/
def Vd (lt : Nat → Nat → Bool) (d : Nat → Nat) : Prop := ∀ i k, lt i k = true → d k ≤ d i
def supp (n B f : Nat) : Nat := mkS (fun i => decide (1 ≤ dig B f i)) n
theorem supp_bit {n B f i : Nat} : (supp n B f).testBit i = true ↔ i < n ∧ 1 ≤ dig B f i := by
  unfold supp; rw [mkS_bit]; simp
theorem supp_lt (n B f : Nat) : supp n B f < 2 ^ n := mkS_lt _ n
def Sub (T S : Nat) : Prop := ∀ j, T.testBit j = true → S.testBit j = true
/-- rows of heaps of length l, the first of them S -/
noncomputable def Wl (n : Nat) (lt : Nat → Nat → Bool) : Nat → Nat → Nat
  | 0, S => if hpb n lt S then 1 else 0
  | l + 1, S => if hpb n lt S then sm (fun T => if pdec (Sub T S) then Wl n lt l T else 0) (2 ^ n) else 0
noncomputable def Ah (n : Nat) (lt : Nat → Nat → Bool) (l S : Nat) : Nat := ctn (fun f => pdec (Vd lt (dig (l + 2) f) ∧ supp n (l + 2) f = S)) ((l + 2) ^ n)
theorem Vd_hp {n : Nat} {lt : Nat → Nat → Bool} (hO : Or8 n lt) {B f : Nat} (h : Vd lt (dig B f)) : Hp n lt (supp n B f) := by
  refine ⟨supp_lt _ _ _, fun i k hl hk => ?_⟩
  rw [supp_bit] at hk ⊢
  have h1 := hO.1 i k hl
  have h2 := h i k hl
  exact ⟨by omega, by omega⟩
theorem dig2 {n f i : Nat} : dig 2 f i = (f.testBit i).toNat := by
  unfold dig
  rw [Nat.testBit_eq_decide_div_mod_eq]
  have := Nat.mod_two_eq_zero_or_one (f / 2 ^ i)
  rcases this with h | h <;> simp [h]
theorem supp2 {n f : Nat} (h : f < 2 ^ n) : supp n 2 f = f := by
  apply bits_ext
  intro j
  rw [supp_bit, dig2 (n := n)]
  constructor
  · rintro ⟨-, q⟩
    cases hb : f.testBit j with
    | true => rfl
    | false => rw [hb] at q; simp at q
  · intro q
    exact ⟨bit_lt h q, by rw [q]; decide⟩
theorem Ah_W {n : Nat} {lt : Nat → Nat → Bool} (hO : Or8 n lt) : ∀ l S, S < 2 ^ n → Ah n lt l S = Wl n lt l S
  | 0, S, hS => by
    unfold Ah
    rw [Wl]
    by_cases H : Hp n lt S
    · rw [hpb_t.mpr H]
      have e : ctn (fun f => pdec (Vd lt (dig (0 + 2) f) ∧ supp n (0 + 2) f = S)) ((0 + 2) ^ n) = ctn (fun f => decide (f = S)) ((0 + 2) ^ n) := by
        apply ctn_cong
        intro f hf
        apply bool_ext
        rw [pdec_t, decide_eq_true_iff]
        constructor
        · rintro ⟨-, q⟩
          rw [supp2 hf] at q; exact q
        · intro q
          subst q
          refine ⟨fun i k hl => ?_, supp2 hf⟩
          rw [dig2 (n := n), dig2 (n := n)]
          cases hb : f.testBit k with
          | false => simp
          | true => rw [H.2 i k hl hb]; simp
      rw [e, ctn_one hS]; rfl
    · rw [hpb_f.mpr H]
      refine ctn_0 (fun f hf => pdec_f.mpr (fun q => H ?_))
      rw [← q.2]
      exact Vd_hp hO q.1
  | l + 1, S, hS => by
    rw [Wl]
    by_cases H : Hp n lt S
    · rw [hpb_t.mpr H]
      simp only [↓reduceIte]
      -- the right side: fillings of one less, within S
      have hR : sm (fun T => if pdec (Sub T S) then Wl n lt l T else 0) (2 ^ n) = ctn (fun f => pdec (Vd lt (dig (l + 2) f) ∧ Sub (supp n (l + 2) f) S)) ((l + 2) ^ n) := by
        have e1 : sm (fun T => if pdec (Sub T S) then Wl n lt l T else 0) (2 ^ n) = sm (fun T => ctn (fun f => pdec ((Vd lt (dig (l + 2) f) ∧ Sub (supp n (l + 2) f) S) ∧ supp n (l + 2) f = T)) ((l + 2) ^ n)) (2 ^ n) := by
          apply sm_cong
          intro T hT
          by_cases hsub : Sub T S
          · rw [pdec_t.mpr hsub]
            simp only [↓reduceIte]
            rw [← Ah_W hO l T hT]
            unfold Ah
            apply ctn_cong
            intro f _
            apply bool_ext
            rw [pdec_t, pdec_t]
            constructor
            · rintro ⟨a, b⟩; exact ⟨⟨a, by rw [b]; exact hsub⟩, b⟩
            · rintro ⟨⟨a, -⟩, b⟩; exact ⟨a, b⟩
          · rw [pdec_f.mpr hsub]
            simp only [Bool.false_eq_true, ↓reduceIte]
            refine (ctn_0 (fun f _ => pdec_f.mpr (fun q => hsub ?_))).symm
            rw [← q.2]; exact q.1.2
        rw [e1, part_ct]
        apply ctn_cong
        intro f _
        apply bool_ext
        rw [pdec_t, pdec_t]
        exact ⟨fun q => q.1, fun q => ⟨q, supp_lt _ _ _⟩⟩
      rw [hR]
      unfold Ah
      have hB3 : 0 < l + 1 + 2 := by omega
      have hB2 : 0 < l + 2 := by omega
      -- a filling less one where it has one
      have dn : ∀ f, ∀ i, (dig (l + 1 + 2) f i - 1) < l + 2 := fun f i => by have := dig_lt (f := f) (i := i) hB3; omega
      have upd : ∀ f, ∀ i, (dig (l + 2) f i + (S.testBit i).toNat) < l + 1 + 2 := fun f i => by
        have := dig_lt (f := f) (i := i) hB2
        have := Bool.toNat_le (S.testBit i)
        omega
      apply Nat.le_antisymm
      · refine ctn_map (fun f => num (l + 2) (fun i => dig (l + 1 + 2) f i - 1) n) (fun f hf hp => ⟨num_lt (dn f) n, ?_⟩) (fun f f' hf hf' hp hp' e => ?_)
        · rw [pdec_t] at hp ⊢
          obtain ⟨hV, hs⟩ := hp
          refine ⟨fun i k hl => ?_, fun j hj => ?_⟩
          · have h1 := hO.1 i k hl
            rw [num_dig (dn f) n i (by omega), num_dig (dn f) n k (by omega)]
            have := hV i k hl
            omega
          · rw [supp_bit] at hj
            rw [num_dig (dn f) n j hj.1] at hj
            rw [← hs, supp_bit]
            exact ⟨hj.1, by omega⟩
        · rw [pdec_t] at hp hp'
          refine dig_ext hB3 hf hf' (fun i hi => ?_)
          have e2 : dig (l + 2) (num (l + 2) (fun i => dig (l + 1 + 2) f i - 1) n) i = dig (l + 2) (num (l + 2) (fun i => dig (l + 1 + 2) f' i - 1) n) i := congrArg (fun z => dig (l + 2) z i) e
          rw [num_dig (dn f) n i hi, num_dig (dn f') n i hi] at e2
          have e3 : 1 ≤ dig (l + 1 + 2) f i ↔ 1 ≤ dig (l + 1 + 2) f' i := by
            have a1 := supp_bit (n := n) (B := l + 1 + 2) (f := f) (i := i)
            have a2 := supp_bit (n := n) (B := l + 1 + 2) (f := f') (i := i)
            rw [hp.2] at a1
            rw [hp'.2] at a2
            exact ⟨fun q => (a2.mp (a1.mpr ⟨hi, q⟩)).2, fun q => (a1.mp (a2.mpr ⟨hi, q⟩)).2⟩
          omega
      · refine ctn_map (fun f => num (l + 1 + 2) (fun i => dig (l + 2) f i + (S.testBit i).toNat) n) (fun f hf hp => ⟨num_lt (upd f) n, ?_⟩) (fun f f' hf hf' hp hp' e => ?_)
        · rw [pdec_t] at hp ⊢
          obtain ⟨hV, hs⟩ := hp
          refine ⟨fun i k hl => ?_, ?_⟩
          · have h1 := hO.1 i k hl
            rw [num_dig (upd f) n i (by omega), num_dig (upd f) n k (by omega)]
            have h2 := hV i k hl
            cases hb : S.testBit k with
            | false =>
              have := Bool.toNat_le (S.testBit i)
              simp
              omega
            | true =>
              rw [H.2 i k hl hb]
              omega
          · apply bits_ext
            intro j
            rw [supp_bit]
            constructor
            · rintro ⟨q1, q2⟩
              rw [num_dig (upd f) n j q1] at q2
              cases hb : S.testBit j with
              | true => rfl
              | false =>
                rw [hb] at q2
                simp at q2
                have := hs j (supp_bit.mpr ⟨q1, by omega⟩)
                rw [hb] at this; cases this
            · intro q
              have hj := bit_lt hS q
              refine ⟨hj, ?_⟩
              rw [num_dig (upd f) n j hj, q]
              simp
        · refine dig_ext hB2 hf hf' (fun i hi => ?_)
          have e2 : dig (l + 1 + 2) (num (l + 1 + 2) (fun i => dig (l + 2) f i + (S.testBit i).toNat) n) i = dig (l + 1 + 2) (num (l + 1 + 2) (fun i => dig (l + 2) f' i + (S.testBit i).toNat) n) i := congrArg (fun z => dig (l + 1 + 2) z i) e
          rw [num_dig (upd f) n i hi, num_dig (upd f') n i hi] at e2
          omega
    · rw [hpb_f.mpr H]
      simp only [Bool.false_eq_true, ↓reduceIte]
      refine ctn_0 (fun f hf => pdec_f.mpr (fun q => H ?_))
      rw [← q.2]
      exact Vd_hp hO q.1
theorem fill_all {n : Nat} {lt : Nat → Nat → Bool} (hO : Or8 n lt) (l : Nat) : sm (Wl n lt l) (2 ^ n) = ctn (fun f => pdec (Vd lt (dig (l + 2) f))) ((l + 2) ^ n) := by
  have e1 : sm (Wl n lt l) (2 ^ n) = sm (fun S => ctn (fun f => pdec (Vd lt (dig (l + 2) f) ∧ supp n (l + 2) f = S)) ((l + 2) ^ n)) (2 ^ n) := sm_cong (fun S hS => (Ah_W hO l S hS).symm)
  rw [e1, part_ct]
  apply ctn_cong
  intro f _
  apply bool_ext
  rw [pdec_t, pdec_t]
  exact ⟨fun q => q.1, fun q => ⟨q, supp_lt _ _ _⟩⟩
