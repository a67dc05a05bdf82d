-- X1_orbits
set_option maxHeartbeats 4000000 in
set_option maxRecDepth 100000 in
theorem cM_orbits (l : Launch) (dC : Nat → ClassId) (dI : Nat → Nat → Nat) (h : Nat) (ad : Nat → Nat) (ca : Nat → ClassId) (sz : Nat) (tc cl : Int32) (tr : Int64) (g : Sg) (x1 : Int32) (x2 : Int32) (P : Int32 → Sg → Prop) (hw : wM_orbits P tc cl tr g x1 x2) : Met l yX1_orbits wsX1_orbits ({ frames := 4, cells := 0, slots := 0, locals := 97 }) (va_Pc [.ref h, .int x1, .int x2] (fun U => U.heap.size = sz ∧ va_P (dC, dI) vwCl (ML h ad ca tc cl tr g) U.heap ∧ va_K (dC, dI) vwCl (MT ca) U ∧ va_D (fun _ => True) (ML h ad ca tc cl tr g))) (va_Qi (fun (r : Int32) (u : Sg) => P r u) (at_M1 dC dI (va_A (ML h ad ca tc cl tr g) sz) h ad ca tc cl tr) (va_A (ML h ad ca tc cl tr g) sz)) 0 0 (va_A (ML h ad ca tc cl tr g) sz) := by
  refine Met.ofW (cc := cX1_orbits) (maxL := 10) (ret := (some .int)) (by decide) rfl ?_
  intro p e s m args below meth c s₁ B0 hml hv
  obtain ⟨hargs, hsz, hP, hK, hD0⟩ := hv
  have hx := B0.exec
  have hb := B0.bytes
  have hr := B0.returns
  have hts := atoms_spec (ws := wsX1_orbits) B0.pre
  have hown : s.vm.findClass RX1 = some m.cls := findClass_of_methodNamed B0.named
  have hlocks := B0.notSynchronized
  have inw : ∀ w ∈ wsX10, w ∈ wsX1_orbits := fun w h => List.mem_cons_of_mem _ (List.mem_append_right _ h)
  have f7 : (Cond.fieldLink RX1 7 "FlipHeapsModel" "things" "I").before args s = true := hts _ (by decide +kernel)
  have f24 : (Cond.fieldLink RX1 24 "FlipHeapsModel" "isMet" "[Z").before args s = true := hts _ (by decide +kernel)
  have k65 : (Cond.constantLong RX1 65 (1000000000)).before args s = true := hts _ (by decide +kernel)
  subst hsz
  have hD := hD0.self (sz := s.heap.size)
  generalize hAe : va_A (ML h ad ca tc cl tr g) s.heap.size = A at hD ⊢
  have hA : ∀ q : Nat, s.heap.size ≤ q → A q := fun q h => by rw [← hAe]; exact Or.inr h
  clear hAe hD0
  have hS : va_S A s.heap s.heap [] := va_S.rf
  have lp_20 : ∀ (x1 : Int32) (x2 : Int32) (K40 : Sg → Prop) (hK40 : ∀ (g : Sg) (H : Heap) (locs : List Loc) (ls : Array Slot), K40 g → va_P (dC, dI) vwCl (ML h ad ca tc cl tr g) H → va_D A (ML h ad ca tc cl tr g) → va_S A s.heap H locs → lv_has ls 10 [(0, .ref h), (1, .int x1), (2, .int x2)] → W p l e (headSpec wsX1_orbits ({ frames := 4, cells := 0, slots := 0, locals := 97 })).room s m args below meth c H locs 0 0 (MQ below (va_Qi (fun (r : Int32) (u : Sg) => P r u) (at_M1 dC dI A h ad ca tc cl tr) A) args s 0 0 A) (F0 m 40 ls [])), ∀ (n : Nat) (x3 : Int32) (g : Sg) (H : Heap) (locs : List Loc) (ls : Array Slot), Lp2 (wM_orbits_b20 P tc cl tr x1 x2 K40) n x3 g → va_P (dC, dI) vwCl (ML h ad ca tc cl tr g) H → va_D A (ML h ad ca tc cl tr g) → va_S A s.heap H locs → lv_has ls 10 [(0, .ref h), (1, .int x1), (2, .int x2), (3, .int x3)] → W p l e (headSpec wsX1_orbits ({ frames := 4, cells := 0, slots := 0, locals := 97 })).room s m args below meth c H locs 0 0 (MQ below (va_Qi (fun (r : Int32) (u : Sg) => P r u) (at_M1 dC dI A h ad ca tc cl tr) A) args s 0 0 A) (F0 m 20 ls []) := by
    intro x1 x2 K40 hK40
    intro n
    induction n with
    | zero => intro x3 g H locs ls hw; exact False.elim hw
    | succ n hB =>
      intro x3 g H locs ls hw hP hD hS hl
      replace hw : wM_orbits_b20 P tc cl tr x1 x2 K40 (Lp2 (wM_orbits_b20 P tc cl tr x1 x2 K40) n) x3 g := hw
      unfold wM_orbits_b20 at hw
      refine lv_iload_n hx hb dX1_orbits_20 rfl (lv_at hl 3 rfl) ?_
      refine lv_sipush (v := (256 : Int32)) hx hb dX1_orbits_21 (by decide) ?_
      refine lv_icmp_ge (tgt := 40) hx hb dX1_orbits_24 (by decide) (fun hc => ?_) (fun hc => ?_)
      · replace hw := hw.1 hc
        clear hc
        exact hK40 g H locs ls hw hP hD hS (lv_sub hl [0, 1, 2] rfl)
      · replace hw := hw.2 hc
        clear hc
        refine lv_aload_n hx hb dX1_orbits_27 rfl (lv_at hl 0 rfl) ?_
        refine va_get (D := (dC, dI)) (ci := 1) (C := RX1) (T := TX1) (N := 9) hx hb hts inw hown hK hP 0 rfl rfl 6 (by decide) f24 (fun _ h9 => h9) rfl dX1_orbits_28 ?_
        refine lv_iload_n hx hb dX1_orbits_31 rfl (lv_at hl 3 rfl) ?_
        refine lv_iconst (v := (0 : Int32)) hx hb dX1_orbits_32 (by decide) ?_
        obtain ⟨hin, hw⟩ := hw
        refine va_zast hx hb hK hP hD hS 4 3 rfl rfl hin dX1_orbits_33 (fun H locs hP hD hS => ?_)
        obtain ⟨g_1, hg⟩ : ∃ z : Sg, z = up2 g 6 (x3).toNatClampNeg (vp_nar .boolean (0 : Int32)) := ⟨_, rfl⟩
        replace hw := hw g_1 hg
        have hP : va_P (dC, dI) vwCl (ML h ad ca tc cl tr g_1) H := by rw [hg]; exact hP
        have hD : va_D A (ML h ad ca tc cl tr g_1) := by rw [hg]; exact hD
        clear hg
        refine lv_iinc (v := (x3 + 1)) (lv' := [(3, .int ((x3 + 1))), (0, .ref h), (1, .int x1), (2, .int x2)]) hx hb dX1_orbits_34 hl (k := 3) rfl rfl (by decide) rfl (fun ls hl => ?_)
        refine lv_goto (tgt := 20) hx hb dX1_orbits_37 (by decide) ?_
        exact hB (x3 + 1) g_1 H locs ls hw hP hD hS (lv_sub hl [1, 2, 3, 0] rfl)
  have lp_88 : ∀ (x1 : Int32) (x2 : Int32) (x3 : Int32) (x4 : Int32) (x5 : Int64) (x7 : Int32) (K121 : Int32 → Sg → Prop) (hK121 : ∀ (x8 : Int32) (g : Sg) (H : Heap) (locs : List Loc) (ls : Array Slot), K121 x8 g → va_P (dC, dI) vwCl (ML h ad ca tc cl tr g) H → va_D A (ML h ad ca tc cl tr g) → va_S A s.heap H locs → lv_has ls 10 [(0, .ref h), (1, .int x1), (2, .int x2), (3, .int x3), (4, .int x4), (5, .long x5), (7, .int x7), (8, .int x8)] → W p l e (headSpec wsX1_orbits ({ frames := 4, cells := 0, slots := 0, locals := 97 })).room s m args below meth c H locs 0 0 (MQ below (va_Qi (fun (r : Int32) (u : Sg) => P r u) (at_M1 dC dI A h ad ca tc cl tr) A) args s 0 0 A) (F0 m 121 ls [])), ∀ (n : Nat) (x8 : Int32) (x9 : Int32) (g : Sg) (H : Heap) (locs : List Loc) (ls : Array Slot), Lp3 (wM_orbits_b88 P tc cl tr x1 x2 x3 x4 x5 x7 K121) n x8 x9 g → va_P (dC, dI) vwCl (ML h ad ca tc cl tr g) H → va_D A (ML h ad ca tc cl tr g) → va_S A s.heap H locs → lv_has ls 10 [(0, .ref h), (1, .int x1), (2, .int x2), (3, .int x3), (4, .int x4), (5, .long x5), (7, .int x7), (8, .int x8), (9, .int x9)] → W p l e (headSpec wsX1_orbits ({ frames := 4, cells := 0, slots := 0, locals := 97 })).room s m args below meth c H locs 0 0 (MQ below (va_Qi (fun (r : Int32) (u : Sg) => P r u) (at_M1 dC dI A h ad ca tc cl tr) A) args s 0 0 A) (F0 m 88 ls []) := by
    intro x1 x2 x3 x4 x5 x7 K121 hK121
    intro n
    induction n with
    | zero => intro x8 x9 g H locs ls hw; exact False.elim hw
    | succ n hB =>
      intro x8 x9 g H locs ls hw hP hD hS hl
      replace hw : wM_orbits_b88 P tc cl tr x1 x2 x3 x4 x5 x7 K121 (Lp3 (wM_orbits_b88 P tc cl tr x1 x2 x3 x4 x5 x7 K121) n) x8 x9 g := hw
      unfold wM_orbits_b88 at hw
      refine lv_aload_n hx hb dX1_orbits_88 rfl (lv_at hl 0 rfl) ?_
      refine va_get (D := (dC, dI)) (ci := 1) (C := RX1) (T := TX1) (N := 9) hx hb hts inw hown hK hP 0 rfl rfl 6 (by decide) f24 (fun _ h9 => h9) rfl dX1_orbits_89 ?_
      refine lv_iload hx hb dX1_orbits_92 (lv_at hl 8 rfl) ?_
      obtain ⟨hin, hw⟩ := hw
      refine va_zald hx hb hK hP 4 3 rfl rfl hin dX1_orbits_94 ?_
      refine lv_if_ne (tgt := 121) hx hb dX1_orbits_95 (by decide) (fun hc => ?_) (fun hc => ?_)
      · replace hw := hw.1 hc
        clear hc
        exact hK121 x8 g H locs ls hw hP hD hS (lv_sub hl [0, 1, 2, 3, 4, 5, 6, 7] rfl)
      · replace hw := hw.2 hc
        clear hc
        refine lv_aload_n hx hb dX1_orbits_98 rfl (lv_at hl 0 rfl) ?_
        refine va_get (D := (dC, dI)) (ci := 1) (C := RX1) (T := TX1) (N := 9) hx hb hts inw hown hK hP 0 rfl rfl 6 (by decide) f24 (fun _ h9 => h9) rfl dX1_orbits_99 ?_
        refine lv_iload hx hb dX1_orbits_102 (lv_at hl 8 rfl) ?_
        refine lv_iconst (v := (1 : Int32)) hx hb dX1_orbits_104 (by decide) ?_
        obtain ⟨hin, hw⟩ := hw
        refine va_zast hx hb hK hP hD hS 4 3 rfl rfl hin dX1_orbits_105 (fun H locs hP hD hS => ?_)
        obtain ⟨g_2, hg⟩ : ∃ z : Sg, z = up2 g 6 (x9).toNatClampNeg (vp_nar .boolean (1 : Int32)) := ⟨_, rfl⟩
        replace hw := hw g_2 hg
        have hP : va_P (dC, dI) vwCl (ML h ad ca tc cl tr g_2) H := by rw [hg]; exact hP
        have hD : va_D A (ML h ad ca tc cl tr g_2) := by rw [hg]; exact hD
        clear hg
        refine lv_iinc (v := (x8 + 1)) (lv' := [(8, .int ((x8 + 1))), (0, .ref h), (1, .int x1), (2, .int x2), (3, .int x3), (4, .int x4), (5, .long x5), (7, .int x7), (9, .int x9)]) hx hb dX1_orbits_106 hl (k := 7) rfl rfl (by decide) rfl (fun ls hl => ?_)
        refine lv_aload_n hx hb dX1_orbits_109 rfl (lv_at hl 1 rfl) ?_
        refine lv_iload hx hb dX1_orbits_110 (lv_at hl 8 rfl) ?_
        refine lv_iload_n hx hb dX1_orbits_112 rfl (lv_at hl 2 rfl) ?_
        refine vp_callSi (W.runV (As := [.int x9, .int x1]) (rest := []) ⟨hx, hb, hml, hown, hts⟩ (cM_turned l dC dI h ad ca tc cl tr g_2 x9 x1 _ hw) (cwV 2 hts gX1_orbits_X1_turned rfl rfl rfl (by decide +kernel) ⟨Nat.le_of_ble_eq_true rfl, Nat.le_of_ble_eq_true rfl⟩) ⟨fun a U g mk q => by obtain ⟨q0, qP, qK⟩ := q; exact ⟨q0, qP, va_K.moved (u := U) (U := U.calling g mk a) (Vm.Alike.refl U.vm) qK⟩, va_recv hK hP (ci := 1) (q0 := 0) rfl rfl, fun U hU hW => ⟨rfl, by rw [hU]; exact hP, va_K.moved hW.alike hK⟩⟩ rfl rfl hl.1 rfl (lv_room (Nat.le_of_ble_eq_true rfl)) dX1_orbits_113 ⟨Nat.zero_le _, Nat.zero_le _⟩) (fun r_3 hw => ?_)
        try dsimp only at hw
        refine lv_istore (lv' := [(9, .int r_3), (8, .int ((x8 + 1))), (0, .ref h), (1, .int x1), (2, .int x2), (3, .int x3), (4, .int x4), (5, .long x5), (7, .int x7)]) hx hb dX1_orbits_116 hl (by decide) rfl (fun ls hl => ?_)
        refine lv_goto (tgt := 88) hx hb dX1_orbits_118 (by decide) ?_
        exact hB (x8 + 1) r_3 g_2 H locs ls hw hP hD hS (lv_sub hl [2, 3, 4, 5, 6, 7, 8, 1, 0] rfl)
  have jn_169 : ∀ (B : Int32 → Int32 → Int64 → Int32 → Sg → Prop) (K177 : Int32 → Int32 → Int64 → Sg → Prop) (x1 : Int32) (x2 : Int32) (x3 : Int32) (x4 : Int32) (x7 : Int32) (y0 : Int64) (g : Sg) (hB : ∀ (x3 : Int32) (x4 : Int32) (x5 : Int64) (x7 : Int32) (g : Sg) (H : Heap) (locs : List Loc) (ls : Array Slot), B x3 x4 x5 x7 g → va_P (dC, dI) vwCl (ML h ad ca tc cl tr g) H → va_D A (ML h ad ca tc cl tr g) → va_S A s.heap H locs → lv_has ls 10 [(0, .ref h), (1, .int x1), (2, .int x2), (3, .int x3), (4, .int x4), (5, .long x5), (7, .int x7)] → W p l e (headSpec wsX1_orbits ({ frames := 4, cells := 0, slots := 0, locals := 97 })).room s m args below meth c H locs 0 0 (MQ below (va_Qi (fun (r : Int32) (u : Sg) => P r u) (at_M1 dC dI A h ad ca tc cl tr) A) args s 0 0 A) (F0 m 51 ls [])) (hK177 : ∀ (x3 : Int32) (x4 : Int32) (x5 : Int64) (g : Sg) (H : Heap) (locs : List Loc) (ls : Array Slot), K177 x3 x4 x5 g → va_P (dC, dI) vwCl (ML h ad ca tc cl tr g) H → va_D A (ML h ad ca tc cl tr g) → va_S A s.heap H locs → lv_has ls 10 [(0, .ref h), (2, .int x2), (3, .int x3), (4, .int x4), (5, .long x5)] → W p l e (headSpec wsX1_orbits ({ frames := 4, cells := 0, slots := 0, locals := 97 })).room s m args below meth c H locs 0 0 (MQ below (va_Qi (fun (r : Int32) (u : Sg) => P r u) (at_M1 dC dI A h ad ca tc cl tr) A) args s 0 0 A) (F0 m 177 ls [])) (H : Heap) (locs : List Loc) (ls : Array Slot), wM_orbits_j169 P tc cl tr B K177 x1 x2 x3 x4 x7 y0 g → va_P (dC, dI) vwCl (ML h ad ca tc cl tr g) H → va_D A (ML h ad ca tc cl tr g) → va_S A s.heap H locs → lv_has ls 10 [(0, .ref h), (1, .int x1), (2, .int x2), (3, .int x3), (4, .int x4), (7, .int x7)] → W p l e (headSpec wsX1_orbits ({ frames := 4, cells := 0, slots := 0, locals := 97 })).room s m args below meth c H locs 0 0 (MQ below (va_Qi (fun (r : Int32) (u : Sg) => P r u) (at_M1 dC dI A h ad ca tc cl tr) A) args s 0 0 A) (F0 m 169 ls [.long y0]) := by
    intro B K177 x1 x2 x3 x4 x7 y0 g hB hK177 H locs ls hw hP hD hS hl
    unfold wM_orbits_j169 at hw
    refine lv_lstore (lv' := [(5, .long y0), (0, .ref h), (1, .int x1), (2, .int x2), (3, .int x3), (4, .int x4), (7, .int x7)]) hx hb dX1_orbits_169 hl (by decide) rfl (fun ls hl => ?_)
    refine lv_iinc (v := (x7 + 1)) (lv' := [(7, .int ((x7 + 1))), (5, .long y0), (0, .ref h), (1, .int x1), (2, .int x2), (3, .int x3), (4, .int x4)]) hx hb dX1_orbits_171 hl (k := 6) rfl rfl (by decide) rfl (fun ls hl => ?_)
    refine lv_goto (tgt := 51) hx hb dX1_orbits_174 (by decide) ?_
    exact hB x3 x4 y0 (x7 + 1) g H locs ls hw hP hD hS (lv_sub hl [2, 3, 4, 5, 6, 1, 0] rfl)
  have jn_138 : ∀ (B : Int32 → Int32 → Int64 → Int32 → Sg → Prop) (K177 : Int32 → Int32 → Int64 → Sg → Prop) (x1 : Int32) (x2 : Int32) (x3 : Int32) (x5 : Int64) (x7 : Int32) (x8 : Int32) (y0 : Int32) (g : Sg) (hB : ∀ (x3 : Int32) (x4 : Int32) (x5 : Int64) (x7 : Int32) (g : Sg) (H : Heap) (locs : List Loc) (ls : Array Slot), B x3 x4 x5 x7 g → va_P (dC, dI) vwCl (ML h ad ca tc cl tr g) H → va_D A (ML h ad ca tc cl tr g) → va_S A s.heap H locs → lv_has ls 10 [(0, .ref h), (1, .int x1), (2, .int x2), (3, .int x3), (4, .int x4), (5, .long x5), (7, .int x7)] → W p l e (headSpec wsX1_orbits ({ frames := 4, cells := 0, slots := 0, locals := 97 })).room s m args below meth c H locs 0 0 (MQ below (va_Qi (fun (r : Int32) (u : Sg) => P r u) (at_M1 dC dI A h ad ca tc cl tr) A) args s 0 0 A) (F0 m 51 ls [])) (hK177 : ∀ (x3 : Int32) (x4 : Int32) (x5 : Int64) (g : Sg) (H : Heap) (locs : List Loc) (ls : Array Slot), K177 x3 x4 x5 g → va_P (dC, dI) vwCl (ML h ad ca tc cl tr g) H → va_D A (ML h ad ca tc cl tr g) → va_S A s.heap H locs → lv_has ls 10 [(0, .ref h), (2, .int x2), (3, .int x3), (4, .int x4), (5, .long x5)] → W p l e (headSpec wsX1_orbits ({ frames := 4, cells := 0, slots := 0, locals := 97 })).room s m args below meth c H locs 0 0 (MQ below (va_Qi (fun (r : Int32) (u : Sg) => P r u) (at_M1 dC dI A h ad ca tc cl tr) A) args s 0 0 A) (F0 m 177 ls [])) (H : Heap) (locs : List Loc) (ls : Array Slot), wM_orbits_j138 P tc cl tr B K177 x1 x2 x3 x5 x7 x8 y0 g → va_P (dC, dI) vwCl (ML h ad ca tc cl tr g) H → va_D A (ML h ad ca tc cl tr g) → va_S A s.heap H locs → lv_has ls 10 [(0, .ref h), (1, .int x1), (2, .int x2), (3, .int x3), (5, .long x5), (7, .int x7), (8, .int x8)] → W p l e (headSpec wsX1_orbits ({ frames := 4, cells := 0, slots := 0, locals := 97 })).room s m args below meth c H locs 0 0 (MQ below (va_Qi (fun (r : Int32) (u : Sg) => P r u) (at_M1 dC dI A h ad ca tc cl tr) A) args s 0 0 A) (F0 m 138 ls [.int y0]) := by
    intro B K177 x1 x2 x3 x5 x7 x8 y0 g hB hK177 H locs ls hw hP hD hS hl
    unfold wM_orbits_j138 at hw
    refine lv_istore (lv' := [(4, .int y0), (0, .ref h), (1, .int x1), (2, .int x2), (3, .int x3), (5, .long x5), (7, .int x7), (8, .int x8)]) hx hb dX1_orbits_138 hl (by decide) rfl (fun ls hl => ?_)
    refine lv_lload hx hb dX1_orbits_140 (lv_at hl 5 rfl) ?_
    refine lv_ldc2 (v := (1000000000 : Int64)) hx hb hown k65 dX1_orbits_142 ?_
    refine W.lcmp hx hb dX1_orbits_145 ?_
    refine lv_if_le (tgt := 154) hx hb dX1_orbits_146 (by decide) (fun hc => ?_) (fun hc => ?_)
    · replace hw := hw.1 hc
      clear hc
      refine lv_lload hx hb dX1_orbits_154 (lv_at hl 5 rfl) ?_
      refine lv_lload hx hb dX1_orbits_156 (lv_at hl 5 rfl) ?_
      refine lv_iload hx hb dX1_orbits_158 (lv_at hl 7 rfl) ?_
      refine lv_i2l (v := Int32.toInt64 x8) hx hb dX1_orbits_160 rfl ?_
      refine vp_callSl (W.runS (As := [.long x5, .long ((Int32.toInt64 x8))]) (rest := [.long x5]) ⟨hx, hb, hml, hown, hts⟩ (cM_common l x5 (Int32.toInt64 x8) _ hw) (va_cwS 2 hts gX1_orbits_X1_common rfl rfl rfl (by decide +kernel) ⟨Nat.le_of_ble_eq_true rfl, Nat.le_of_ble_eq_true rfl⟩) ⟨fun a U g mk q => q, fun U hU hW => ⟨rfl, trivial⟩⟩ rfl rfl hl.1 rfl (lv_room (Nat.le_of_ble_eq_true rfl)) dX1_orbits_161 ⟨Nat.zero_le _, Nat.zero_le _⟩) (fun r_4 hw => ?_)
      try dsimp only at hw
      obtain ⟨hne, hw⟩ := hw
      refine lv_ldiv hx hb dX1_orbits_164 hne ?_
      refine lv_iload hx hb dX1_orbits_165 (lv_at hl 7 rfl) ?_
      refine lv_i2l (v := Int32.toInt64 x8) hx hb dX1_orbits_167 rfl ?_
      refine lv_lmul hx hb dX1_orbits_168 ?_
      exact jn_169 _ _ x1 x2 x3 y0 x7 ((x5 / r_4) * (Int32.toInt64 x8)) g hB hK177 H locs ls hw hP hD hS (lv_sub hl [1, 2, 3, 4, 0, 6] rfl)
    · replace hw := hw.2 hc
      clear hc
      refine lv_lload hx hb dX1_orbits_149 (lv_at hl 5 rfl) ?_
      refine lv_goto (tgt := 169) hx hb dX1_orbits_151 (by decide) ?_
      exact jn_169 _ _ x1 x2 x3 y0 x7 x5 g hB hK177 H locs ls hw hP hD hS (lv_sub hl [1, 2, 3, 4, 0, 6] rfl)
  have lp_51 : ∀ (x1 : Int32) (x2 : Int32) (K177 : Int32 → Int32 → Int64 → Sg → Prop) (hK177 : ∀ (x3 : Int32) (x4 : Int32) (x5 : Int64) (g : Sg) (H : Heap) (locs : List Loc) (ls : Array Slot), K177 x3 x4 x5 g → va_P (dC, dI) vwCl (ML h ad ca tc cl tr g) H → va_D A (ML h ad ca tc cl tr g) → va_S A s.heap H locs → lv_has ls 10 [(0, .ref h), (2, .int x2), (3, .int x3), (4, .int x4), (5, .long x5)] → W p l e (headSpec wsX1_orbits ({ frames := 4, cells := 0, slots := 0, locals := 97 })).room s m args below meth c H locs 0 0 (MQ below (va_Qi (fun (r : Int32) (u : Sg) => P r u) (at_M1 dC dI A h ad ca tc cl tr) A) args s 0 0 A) (F0 m 177 ls [])), ∀ (n : Nat) (x3 : Int32) (x4 : Int32) (x5 : Int64) (x7 : Int32) (g : Sg) (H : Heap) (locs : List Loc) (ls : Array Slot), Lp5 (wM_orbits_b51 P tc cl tr x1 x2 K177) n x3 x4 x5 x7 g → va_P (dC, dI) vwCl (ML h ad ca tc cl tr g) H → va_D A (ML h ad ca tc cl tr g) → va_S A s.heap H locs → lv_has ls 10 [(0, .ref h), (1, .int x1), (2, .int x2), (3, .int x3), (4, .int x4), (5, .long x5), (7, .int x7)] → W p l e (headSpec wsX1_orbits ({ frames := 4, cells := 0, slots := 0, locals := 97 })).room s m args below meth c H locs 0 0 (MQ below (va_Qi (fun (r : Int32) (u : Sg) => P r u) (at_M1 dC dI A h ad ca tc cl tr) A) args s 0 0 A) (F0 m 51 ls []) := by
    intro x1 x2 K177 hK177
    intro n
    induction n with
    | zero => intro x3 x4 x5 x7 g H locs ls hw; exact False.elim hw
    | succ n hB =>
      intro x3 x4 x5 x7 g H locs ls hw hP hD hS hl
      replace hw : wM_orbits_b51 P tc cl tr x1 x2 K177 (Lp5 (wM_orbits_b51 P tc cl tr x1 x2 K177) n) x3 x4 x5 x7 g := hw
      unfold wM_orbits_b51 at hw
      refine lv_iload hx hb dX1_orbits_51 (lv_at hl 6 rfl) ?_
      refine lv_iconst (v := (1 : Int32)) hx hb dX1_orbits_53 (by decide) ?_
      refine lv_aload_n hx hb dX1_orbits_54 rfl (lv_at hl 0 rfl) ?_
      refine va_get (D := (dC, dI)) (ci := 1) (C := RX1) (T := TX1) (N := 9) hx hb hts inw hown hK hP 0 rfl rfl 0 (by decide) f7 (fun _ h9 => h9) rfl dX1_orbits_55 ?_
      refine lv_ishl hx hb dX1_orbits_58 ?_
      refine lv_icmp_ge (tgt := 177) hx hb dX1_orbits_59 (by decide) (fun hc => ?_) (fun hc => ?_)
      · replace hw := hw.1 hc
        clear hc
        exact hK177 x3 x4 x5 g H locs ls hw hP hD hS (lv_sub hl [0, 2, 3, 4, 5] rfl)
      · replace hw := hw.2 hc
        clear hc
        refine lv_aload_n hx hb dX1_orbits_62 rfl (lv_at hl 0 rfl) ?_
        refine lv_iload hx hb dX1_orbits_63 (lv_at hl 6 rfl) ?_
        refine vp_callSi (W.runV (As := [.int x7]) (rest := []) ⟨hx, hb, hml, hown, hts⟩ (cM_isHeap l dC dI h ad ca tc cl tr g x7 _ hw) (cwV 1 hts gX1_orbits_X1_isHeap rfl rfl rfl (by decide +kernel) ⟨Nat.le_of_ble_eq_true rfl, Nat.le_of_ble_eq_true rfl⟩) ⟨fun a U g mk q => by obtain ⟨q0, qP, qK⟩ := q; exact ⟨q0, qP, va_K.moved (u := U) (U := U.calling g mk a) (Vm.Alike.refl U.vm) qK⟩, va_recv hK hP (ci := 1) (q0 := 0) rfl rfl, fun U hU hW => ⟨rfl, by rw [hU]; exact hP, va_K.moved hW.alike hK⟩⟩ rfl rfl hl.1 rfl (lv_room (Nat.le_of_ble_eq_true rfl)) dX1_orbits_65 ⟨Nat.zero_le _, Nat.zero_le _⟩) (fun r_5 hw => ?_)
        try dsimp only at hw
        refine lv_if_eq (tgt := 171) hx hb dX1_orbits_68 (by decide) (fun hc => ?_) (fun hc => ?_)
        · replace hw := hw.1 hc
          clear hc
          refine lv_iinc (v := (x7 + 1)) (lv' := [(7, .int ((x7 + 1))), (0, .ref h), (1, .int x1), (2, .int x2), (3, .int x3), (4, .int x4), (5, .long x5)]) hx hb dX1_orbits_171 hl (k := 6) rfl rfl (by decide) rfl (fun ls hl => ?_)
          refine lv_goto (tgt := 51) hx hb dX1_orbits_174 (by decide) ?_
          exact hB x3 x4 x5 (x7 + 1) g H locs ls hw hP hD hS (lv_sub hl [1, 2, 3, 4, 5, 6, 0] rfl)
        · replace hw := hw.2 hc
          clear hc
          refine lv_aload_n hx hb dX1_orbits_71 rfl (lv_at hl 0 rfl) ?_
          refine va_get (D := (dC, dI)) (ci := 1) (C := RX1) (T := TX1) (N := 9) hx hb hts inw hown hK hP 0 rfl rfl 6 (by decide) f24 (fun _ h9 => h9) rfl dX1_orbits_72 ?_
          refine lv_iload hx hb dX1_orbits_75 (lv_at hl 6 rfl) ?_
          obtain ⟨hin, hw⟩ := hw
          refine va_zald hx hb hK hP 4 3 rfl rfl hin dX1_orbits_77 ?_
          refine lv_if_ne (tgt := 171) hx hb dX1_orbits_78 (by decide) (fun hc => ?_) (fun hc => ?_)
          · replace hw := hw.1 hc
            clear hc
            refine lv_iinc (v := (x7 + 1)) (lv' := [(7, .int ((x7 + 1))), (0, .ref h), (1, .int x1), (2, .int x2), (3, .int x3), (4, .int x4), (5, .long x5)]) hx hb dX1_orbits_171 hl (k := 6) rfl rfl (by decide) rfl (fun ls hl => ?_)
            refine lv_goto (tgt := 51) hx hb dX1_orbits_174 (by decide) ?_
            exact hB x3 x4 x5 (x7 + 1) g H locs ls hw hP hD hS (lv_sub hl [1, 2, 3, 4, 5, 6, 0] rfl)
          · replace hw := hw.2 hc
            clear hc
            refine lv_iconst (v := (0 : Int32)) hx hb dX1_orbits_81 (by decide) ?_
            refine lv_istore (lv' := [(8, .int (0 : Int32)), (0, .ref h), (1, .int x1), (2, .int x2), (3, .int x3), (4, .int x4), (5, .long x5), (7, .int x7)]) hx hb dX1_orbits_82 hl (by decide) rfl (fun ls hl => ?_)
            refine lv_iload hx hb dX1_orbits_84 (lv_at hl 7 rfl) ?_
            refine lv_istore (lv' := [(9, .int x7), (8, .int (0 : Int32)), (0, .ref h), (1, .int x1), (2, .int x2), (3, .int x3), (4, .int x4), (5, .long x5), (7, .int x7)]) hx hb dX1_orbits_86 hl (by decide) rfl (fun ls hl => ?_)
            obtain ⟨n_8, hw⟩ := hw
            refine lp_88 x1 x2 x3 x4 x5 x7 _ ?_ n_8 (0 : Int32) x7 g H locs ls hw hP hD hS (lv_sub hl [2, 3, 4, 5, 6, 7, 8, 1, 0] rfl)
            · intro x8_6 g_7 H locs ls hw hP hD hS hl
              try dsimp only at hw
              refine lv_iinc (v := (x3 + 1)) (lv' := [(3, .int ((x3 + 1))), (0, .ref h), (1, .int x1), (2, .int x2), (4, .int x4), (5, .long x5), (7, .int x7), (8, .int x8_6)]) hx hb dX1_orbits_121 hl (k := 3) rfl rfl (by decide) rfl (fun ls hl => ?_)
              refine lv_iload hx hb dX1_orbits_124 (lv_at hl 7 rfl) ?_
              refine lv_iload hx hb dX1_orbits_126 (lv_at hl 4 rfl) ?_
              refine lv_icmp_le (tgt := 136) hx hb dX1_orbits_128 (by decide) (fun hc => ?_) (fun hc => ?_)
              · replace hw := hw.1 hc
                clear hc
                refine lv_iload hx hb dX1_orbits_136 (lv_at hl 4 rfl) ?_
                exact jn_138 _ _ x1 x2 (x3 + 1) x5 x7 x8_6 x4 g_7 hB hK177 H locs ls hw hP hD hS (lv_sub hl [1, 2, 3, 0, 5, 6, 7] rfl)
              · replace hw := hw.2 hc
                clear hc
                refine lv_iload hx hb dX1_orbits_131 (lv_at hl 7 rfl) ?_
                refine lv_goto (tgt := 138) hx hb dX1_orbits_133 (by decide) ?_
                exact jn_138 _ _ x1 x2 (x3 + 1) x5 x7 x8_6 x8_6 g_7 hB hK177 H locs ls hw hP hD hS (lv_sub hl [1, 2, 3, 0, 5, 6, 7] rfl)
  subst hargs
  unfold wM_orbits at hw
  have hl := lv_entry ([.ref h, .int x1, .int x2]) (n := 10) (Nat.le_of_ble_eq_true rfl)
  rw [lg_entry_eq]
  generalize (lg_sl ([.ref h, .int x1, .int x2]) ++ List.replicate (10 - (lg_sl ([.ref h, .int x1, .int x2])).length) Slot.unset).toArray = ls at hl ⊢
  have hl : lv_has ls 10 [(0, .ref h), (1, .int x1), (2, .int x2)] := hl
  obtain ⟨H, hHe⟩ : ∃ z : Heap, z = s.heap := ⟨_, rfl⟩
  obtain ⟨locs, hLe⟩ : ∃ z : List Loc, z = [] := ⟨_, rfl⟩
  have hS : va_S A s.heap H locs := by rw [hHe, hLe]; exact hS
  have hP : va_P (dC, dI) vwCl (ML h ad ca tc cl tr g) H := by rw [hHe]; exact hP
  have hgo : W p l e (headSpec wsX1_orbits ({ frames := 4, cells := 0, slots := 0, locals := 97 })).room s m ([.ref h, .int x1, .int x2] : List Value).toArray below meth c H locs 0 0 (MQ below (va_Qi (fun (r : Int32) (u : Sg) => P r u) (at_M1 dC dI A h ad ca tc cl tr) A) ([.ref h, .int x1, .int x2] : List Value).toArray s 0 0 A) (F0 m 0 ls []) := by
    clear hHe hLe
    refine lv_iload_n hx hb dX1_orbits_0 rfl (lv_at hl 1 rfl) ?_
    refine vp_callSi (W.runS (As := [.int x1]) (rest := []) ⟨hx, hb, hml, hown, hts⟩ (cM_isKind l x1 _ hw) (va_cwS 1 hts gX1_orbits_X1_isKind rfl rfl rfl (by decide +kernel) ⟨Nat.le_of_ble_eq_true rfl, Nat.le_of_ble_eq_true rfl⟩) ⟨fun a U g mk q => q, fun U hU hW => ⟨rfl, trivial⟩⟩ rfl rfl hl.1 rfl (lv_room (Nat.le_of_ble_eq_true rfl)) dX1_orbits_1 ⟨Nat.zero_le _, Nat.zero_le _⟩) (fun r_9 hw => ?_)
    try dsimp only at hw
    refine lv_if_eq (tgt := 16) hx hb dX1_orbits_4 (by decide) (fun hc => ?_) (fun hc => ?_)
    · replace hw := hw.1 hc
      clear hc
      refine lv_iconst (v := (-1 : Int32)) hx hb dX1_orbits_16 (by decide) ?_
      exact W.iret (v := (-1 : Int32)) hx hb hr (fun t ht hW => ⟨⟨(-1 : Int32), g, rfl, hw, by rw [ht]; exact hP, va_K.moved hW.alike hK, hD⟩, hS.F ht⟩) hS.2.2 dX1_orbits_17
    · replace hw := hw.2 hc
      clear hc
      refine lv_iload_n hx hb dX1_orbits_7 rfl (lv_at hl 2 rfl) ?_
      refine lv_iconst (v := (0 : Int32)) hx hb dX1_orbits_8 (by decide) ?_
      refine lv_iconst (v := (2 : Int32)) hx hb dX1_orbits_9 (by decide) ?_
      refine vp_callSi (W.runS (As := [.int x2, .int (0 : Int32), .int (2 : Int32)]) (rest := []) ⟨hx, hb, hml, hown, hts⟩ (cM_in l x2 (0 : Int32) (2 : Int32) _ hw) (va_cwS 3 hts gX1_orbits_X1_in rfl rfl rfl (by decide +kernel) ⟨Nat.le_of_ble_eq_true rfl, Nat.le_of_ble_eq_true rfl⟩) ⟨fun a U g mk q => q, fun U hU hW => ⟨rfl, trivial⟩⟩ rfl rfl hl.1 rfl (lv_room (Nat.le_of_ble_eq_true rfl)) dX1_orbits_10 ⟨Nat.zero_le _, Nat.zero_le _⟩) (fun r_10 hw => ?_)
      try dsimp only at hw
      refine lv_if_ne (tgt := 18) hx hb dX1_orbits_13 (by decide) (fun hc => ?_) (fun hc => ?_)
      · replace hw := hw.1 hc
        clear hc
        refine lv_iconst (v := (0 : Int32)) hx hb dX1_orbits_18 (by decide) ?_
        refine lv_istore_n (lv' := [(3, .int (0 : Int32)), (0, .ref h), (1, .int x1), (2, .int x2)]) hx hb dX1_orbits_19 rfl hl (by decide) rfl (fun ls hl => ?_)
        obtain ⟨n_17, hw⟩ := hw
        refine lp_20 x1 x2 _ ?_ n_17 (0 : Int32) g H locs ls hw hP hD hS (lv_sub hl [1, 2, 3, 0] rfl)
        · intro g_11 H locs ls hw hP hD hS hl
          try dsimp only at hw
          refine lv_iconst (v := (0 : Int32)) hx hb dX1_orbits_40 (by decide) ?_
          refine lv_istore_n (lv' := [(3, .int (0 : Int32)), (0, .ref h), (1, .int x1), (2, .int x2)]) hx hb dX1_orbits_41 rfl hl (by decide) rfl (fun ls hl => ?_)
          refine lv_iconst (v := (0 : Int32)) hx hb dX1_orbits_42 (by decide) ?_
          refine lv_istore (lv' := [(4, .int (0 : Int32)), (3, .int (0 : Int32)), (0, .ref h), (1, .int x1), (2, .int x2)]) hx hb dX1_orbits_43 hl (by decide) rfl (fun ls hl => ?_)
          refine lv_lconst (v := (1 : Int64)) hx hb dX1_orbits_45 (by decide) ?_
          refine lv_lstore (lv' := [(5, .long (1 : Int64)), (4, .int (0 : Int32)), (3, .int (0 : Int32)), (0, .ref h), (1, .int x1), (2, .int x2)]) hx hb dX1_orbits_46 hl (by decide) rfl (fun ls hl => ?_)
          refine lv_iconst (v := (0 : Int32)) hx hb dX1_orbits_48 (by decide) ?_
          refine lv_istore (lv' := [(7, .int (0 : Int32)), (5, .long (1 : Int64)), (4, .int (0 : Int32)), (3, .int (0 : Int32)), (0, .ref h), (1, .int x1), (2, .int x2)]) hx hb dX1_orbits_49 hl (by decide) rfl (fun ls hl => ?_)
          obtain ⟨n_16, hw⟩ := hw
          refine lp_51 x1 x2 _ ?_ n_16 (0 : Int32) (0 : Int32) (1 : Int64) (0 : Int32) g_11 H locs ls hw hP hD hS (lv_sub hl [4, 5, 6, 3, 2, 1, 0] rfl)
          · intro x3_12 x4_13 x5_14 g_15 H locs ls hw hP hD hS hl
            try dsimp only at hw
            refine lv_iload_n hx hb dX1_orbits_177 rfl (lv_at hl 1 rfl) ?_
            refine lv_if_ne (tgt := 185) hx hb dX1_orbits_178 (by decide) (fun hc => ?_) (fun hc => ?_)
            · replace hw := hw.1 hc
              clear hc
              refine lv_iload_n hx hb dX1_orbits_185 rfl (lv_at hl 1 rfl) ?_
              refine lv_iconst (v := (2 : Int32)) hx hb dX1_orbits_186 (by decide) ?_
              refine lv_icmp_ne (tgt := 195) hx hb dX1_orbits_187 (by decide) (fun hc => ?_) (fun hc => ?_)
              · replace hw := hw.1 hc
                clear hc
                refine lv_lload hx hb dX1_orbits_195 (lv_at hl 4 rfl) ?_
                refine lv_ldc2 (v := (1000000000 : Int64)) hx hb hown k65 dX1_orbits_197 ?_
                refine W.lcmp hx hb dX1_orbits_200 ?_
                refine lv_if_le (tgt := 209) hx hb dX1_orbits_201 (by decide) (fun hc => ?_) (fun hc => ?_)
                · replace hw := hw.1 hc
                  clear hc
                  refine lv_lload hx hb dX1_orbits_209 (lv_at hl 4 rfl) ?_
                  refine lv_l2i (v := Int64.toInt32 x5_14) hx hb dX1_orbits_211 rfl ?_
                  exact W.iret (v := (Int64.toInt32 x5_14)) hx hb hr (fun t ht hW => ⟨⟨(Int64.toInt32 x5_14), g_15, rfl, hw, by rw [ht]; exact hP, va_K.moved hW.alike hK, hD⟩, hS.F ht⟩) hS.2.2 dX1_orbits_212
                · replace hw := hw.2 hc
                  clear hc
                  refine lv_bipush (v := (-9 : Int32)) hx hb dX1_orbits_204 (by decide) ?_
                  refine lv_goto (tgt := 212) hx hb dX1_orbits_206 (by decide) ?_
                  exact W.iret (v := (-9 : Int32)) hx hb hr (fun t ht hW => ⟨⟨(-9 : Int32), g_15, rfl, hw, by rw [ht]; exact hP, va_K.moved hW.alike hK, hD⟩, hS.F ht⟩) hS.2.2 dX1_orbits_212
              · replace hw := hw.2 hc
                clear hc
                refine lv_iload hx hb dX1_orbits_190 (lv_at hl 3 rfl) ?_
                refine lv_goto (tgt := 212) hx hb dX1_orbits_192 (by decide) ?_
                exact W.iret (v := x4_13) hx hb hr (fun t ht hW => ⟨⟨x4_13, g_15, rfl, hw, by rw [ht]; exact hP, va_K.moved hW.alike hK, hD⟩, hS.F ht⟩) hS.2.2 dX1_orbits_212
            · replace hw := hw.2 hc
              clear hc
              refine lv_iload_n hx hb dX1_orbits_181 rfl (lv_at hl 2 rfl) ?_
              refine lv_goto (tgt := 212) hx hb dX1_orbits_182 (by decide) ?_
              exact W.iret (v := x3_12) hx hb hr (fun t ht hW => ⟨⟨x3_12, g_15, rfl, hw, by rw [ht]; exact hP, va_K.moved hW.alike hK, hD⟩, hS.F ht⟩) hS.2.2 dX1_orbits_212
      · replace hw := hw.2 hc
        clear hc
        refine lv_iconst (v := (-1 : Int32)) hx hb dX1_orbits_16 (by decide) ?_
        exact W.iret (v := (-1 : Int32)) hx hb hr (fun t ht hW => ⟨⟨(-1 : Int32), g, rfl, hw, by rw [ht]; exact hP, va_K.moved hW.alike hK, hD⟩, hS.F ht⟩) hS.2.2 dX1_orbits_17
  rw [hHe, hLe] at hgo
  exact hgo
-- X1_measureOf
set_option maxHeartbeats 4000000 in
set_option maxRecDepth 100000 in
theorem cM_measureOf (l : Launch) (dC : Nat → ClassId) (dI : Nat → Nat → Nat) (h : Nat) (ad : Nat → Nat) (ca : Nat → ClassId) (tc cl : Int32) (tr : Int64) (g : Sg) (x1 : Int32) (x2 : Int32) (P : Int32 → Prop) (hw : wM_measureOf P tc cl tr g x1 x2) : Met l yX1_measureOf wsX1_measureOf ({ frames := 1, cells := 0, slots := 0, locals := 21 }) (va_Pc [.ref h, .int x1, .int x2] (fun U => va_P (dC, dI) vwCl (ML h ad ca tc cl tr g) U.heap ∧ va_K (dC, dI) vwCl (MT ca) U)) (vp_Si P) 0 0 (fun _ => False) := by
  refine Met.ofW (cc := cX1_measureOf) (maxL := 7) (ret := (some .int)) (by decide) rfl ?_
  intro p e s m args below meth c s₁ B0 hml hv
  obtain ⟨hargs, hP, hK⟩ := hv
  have hx := B0.exec
  have hb := B0.bytes
  have hr := B0.returns
  have hts := atoms_spec (ws := wsX1_measureOf) B0.pre
  have hown : s.vm.findClass RX1 = some m.cls := findClass_of_methodNamed B0.named
  have hlocks := B0.notSynchronized
  have inw : ∀ w ∈ wsX10, w ∈ wsX1_measureOf := fun w h => List.mem_cons_of_mem _ (List.mem_append_right _ h)
  have f7 : (Cond.fieldLink RX1 7 "FlipHeapsModel" "things" "I").before args s = true := hts _ (by decide +kernel)
  have f13 : (Cond.fieldLink RX1 13 "FlipHeapsModel" "isBelow" "[Z").before args s = true := hts _ (by decide +kernel)
  have f17 : (Cond.fieldLink RX1 17 "FlipHeapsModel" "weight" "[I").before args s = true := hts _ (by decide +kernel)
  have jn_72 : ∀ (B : Int32 → Int32 → Prop) (K81 : Int32 → Prop) (x1 : Int32) (x2 : Int32) (x3 : Int32) (x4 : Int32) (x6 : Int32) (hB : ∀ (x5 : Int32) (x6 : Int32) (ls : Array Slot), B x5 x6 → lv_has ls 7 [(0, .ref h), (1, .int x1), (2, .int x2), (3, .int x3), (4, .int x4), (5, .int x5), (6, .int x6)] → W p l e (headSpec wsX1_measureOf ({ frames := 1, cells := 0, slots := 0, locals := 21 })).room s m args below meth c s.heap [] 0 0 (MQ below (vp_Si P) args s 0 0 (fun _ => False)) (F0 m 29 ls [])) (hK81 : ∀ (x5 : Int32) (ls : Array Slot), K81 x5 → lv_has ls 7 [(0, .ref h), (1, .int x1), (2, .int x2), (3, .int x3), (4, .int x4), (5, .int x5)] → W p l e (headSpec wsX1_measureOf ({ frames := 1, cells := 0, slots := 0, locals := 21 })).room s m args below meth c s.heap [] 0 0 (MQ below (vp_Si P) args s 0 0 (fun _ => False)) (F0 m 81 ls [])) (ls : Array Slot), wM_measureOf_j72 P tc cl tr g B K81 x1 x2 x3 x4 x6 → lv_has ls 7 [(0, .ref h), (1, .int x1), (2, .int x2), (3, .int x3), (4, .int x4), (6, .int x6)] → W p l e (headSpec wsX1_measureOf ({ frames := 1, cells := 0, slots := 0, locals := 21 })).room s m args below meth c s.heap [] 0 0 (MQ below (vp_Si P) args s 0 0 (fun _ => False)) (F0 m 72 ls []) := by
    intro B K81 x1 x2 x3 x4 x6 hB hK81 ls hw hl
    unfold wM_measureOf_j72 at hw
    refine lv_iconst (v := (0 : Int32)) hx hb dX1_measureOf_72 (by decide) ?_
    refine lv_istore (lv' := [(5, .int (0 : Int32)), (0, .ref h), (1, .int x1), (2, .int x2), (3, .int x3), (4, .int x4), (6, .int x6)]) hx hb dX1_measureOf_73 hl (by decide) rfl (fun ls hl => ?_)
    refine lv_iinc (v := (x6 + 1)) (lv' := [(6, .int ((x6 + 1))), (5, .int (0 : Int32)), (0, .ref h), (1, .int x1), (2, .int x2), (3, .int x3), (4, .int x4)]) hx hb dX1_measureOf_75 hl (k := 6) rfl rfl (by decide) rfl (fun ls hl => ?_)
    refine lv_goto (tgt := 29) hx hb dX1_measureOf_78 (by decide) ?_
    exact hB (0 : Int32) (x6 + 1) ls hw (lv_sub hl [2, 3, 4, 5, 6, 1, 0] rfl)
  have jn_68 : ∀ (B : Int32 → Int32 → Prop) (K81 : Int32 → Prop) (x1 : Int32) (x2 : Int32) (x3 : Int32) (x4 : Int32) (x6 : Int32) (hB : ∀ (x5 : Int32) (x6 : Int32) (ls : Array Slot), B x5 x6 → lv_has ls 7 [(0, .ref h), (1, .int x1), (2, .int x2), (3, .int x3), (4, .int x4), (5, .int x5), (6, .int x6)] → W p l e (headSpec wsX1_measureOf ({ frames := 1, cells := 0, slots := 0, locals := 21 })).room s m args below meth c s.heap [] 0 0 (MQ below (vp_Si P) args s 0 0 (fun _ => False)) (F0 m 29 ls [])) (hK81 : ∀ (x5 : Int32) (ls : Array Slot), K81 x5 → lv_has ls 7 [(0, .ref h), (1, .int x1), (2, .int x2), (3, .int x3), (4, .int x4), (5, .int x5)] → W p l e (headSpec wsX1_measureOf ({ frames := 1, cells := 0, slots := 0, locals := 21 })).room s m args below meth c s.heap [] 0 0 (MQ below (vp_Si P) args s 0 0 (fun _ => False)) (F0 m 81 ls [])) (ls : Array Slot), wM_measureOf_j68 P tc cl tr g B K81 x1 x2 x3 x4 x6 → lv_has ls 7 [(0, .ref h), (1, .int x1), (2, .int x2), (3, .int x3), (4, .int x4), (6, .int x6)] → W p l e (headSpec wsX1_measureOf ({ frames := 1, cells := 0, slots := 0, locals := 21 })).room s m args below meth c s.heap [] 0 0 (MQ below (vp_Si P) args s 0 0 (fun _ => False)) (F0 m 68 ls []) := by
    intro B K81 x1 x2 x3 x4 x6 hB hK81 ls hw hl
    unfold wM_measureOf_j68 at hw
    refine lv_iconst (v := (1 : Int32)) hx hb dX1_measureOf_68 (by decide) ?_
    refine lv_goto (tgt := 73) hx hb dX1_measureOf_69 (by decide) ?_
    refine lv_istore (lv' := [(5, .int (1 : Int32)), (0, .ref h), (1, .int x1), (2, .int x2), (3, .int x3), (4, .int x4), (6, .int x6)]) hx hb dX1_measureOf_73 hl (by decide) rfl (fun ls hl => ?_)
    refine lv_iinc (v := (x6 + 1)) (lv' := [(6, .int ((x6 + 1))), (5, .int (1 : Int32)), (0, .ref h), (1, .int x1), (2, .int x2), (3, .int x3), (4, .int x4)]) hx hb dX1_measureOf_75 hl (k := 6) rfl rfl (by decide) rfl (fun ls hl => ?_)
    refine lv_goto (tgt := 29) hx hb dX1_measureOf_78 (by decide) ?_
    exact hB (1 : Int32) (x6 + 1) ls hw (lv_sub hl [2, 3, 4, 5, 6, 1, 0] rfl)
  have lp_29 : ∀ (x1 : Int32) (x2 : Int32) (x3 : Int32) (x4 : Int32) (K81 : Int32 → Prop) (hK81 : ∀ (x5 : Int32) (ls : Array Slot), K81 x5 → lv_has ls 7 [(0, .ref h), (1, .int x1), (2, .int x2), (3, .int x3), (4, .int x4), (5, .int x5)] → W p l e (headSpec wsX1_measureOf ({ frames := 1, cells := 0, slots := 0, locals := 21 })).room s m args below meth c s.heap [] 0 0 (MQ below (vp_Si P) args s 0 0 (fun _ => False)) (F0 m 81 ls [])), ∀ (n : Nat) (x5 : Int32) (x6 : Int32) (ls : Array Slot), Lp2 (wM_measureOf_b29 P tc cl tr g x1 x2 x3 x4 K81) n x5 x6 → lv_has ls 7 [(0, .ref h), (1, .int x1), (2, .int x2), (3, .int x3), (4, .int x4), (5, .int x5), (6, .int x6)] → W p l e (headSpec wsX1_measureOf ({ frames := 1, cells := 0, slots := 0, locals := 21 })).room s m args below meth c s.heap [] 0 0 (MQ below (vp_Si P) args s 0 0 (fun _ => False)) (F0 m 29 ls []) := by
    intro x1 x2 x3 x4 K81 hK81
    intro n
    induction n with
    | zero => intro x5 x6 ls hw; exact False.elim hw
    | succ n hB =>
      intro x5 x6 ls hw hl
      replace hw : wM_measureOf_b29 P tc cl tr g x1 x2 x3 x4 K81 (Lp2 (wM_measureOf_b29 P tc cl tr g x1 x2 x3 x4 K81) n) x5 x6 := hw
      unfold wM_measureOf_b29 at hw
      refine lv_iload hx hb dX1_measureOf_29 (lv_at hl 6 rfl) ?_
      refine lv_aload_n hx hb dX1_measureOf_31 rfl (lv_at hl 0 rfl) ?_
      refine va_get (D := (dC, dI)) (ci := 1) (C := RX1) (T := TX1) (N := 9) hx hb hts inw hown hK hP 0 rfl rfl 0 (by decide) f7 (fun _ h9 => h9) rfl dX1_measureOf_32 ?_
      refine lv_icmp_ge (tgt := 81) hx hb dX1_measureOf_35 (by decide) (fun hc => ?_) (fun hc => ?_)
      · replace hw := hw.1 hc
        clear hc
        exact hK81 x5 ls hw (lv_sub hl [0, 1, 2, 3, 4, 5] rfl)
      · replace hw := hw.2 hc
        clear hc
        refine lv_iload hx hb dX1_measureOf_38 (lv_at hl 5 rfl) ?_
        refine lv_if_eq (tgt := 72) hx hb dX1_measureOf_40 (by decide) (fun hc => ?_) (fun hc => ?_)
        · replace hw := hw.1 hc
          clear hc
          exact jn_72 _ _ x1 x2 x3 x4 x6 hB hK81 ls hw (lv_sub hl [0, 1, 2, 3, 4, 6] rfl)
        · replace hw := hw.2 hc
          clear hc
          refine lv_aload_n hx hb dX1_measureOf_43 rfl (lv_at hl 0 rfl) ?_
          refine va_get (D := (dC, dI)) (ci := 1) (C := RX1) (T := TX1) (N := 9) hx hb hts inw hown hK hP 0 rfl rfl 1 (by decide) f13 (fun _ h9 => h9) rfl dX1_measureOf_44 ?_
          refine lv_bipush (v := (8 : Int32)) hx hb dX1_measureOf_47 (by decide) ?_
          refine lv_iload hx hb dX1_measureOf_49 (lv_at hl 4 rfl) ?_
          refine lv_imul hx hb dX1_measureOf_51 ?_
          refine lv_iload hx hb dX1_measureOf_52 (lv_at hl 6 rfl) ?_
          refine lv_iadd hx hb dX1_measureOf_54 ?_
          obtain ⟨hin, hw⟩ := hw
          refine va_zald hx hb hK hP 1 0 rfl rfl hin dX1_measureOf_55 ?_
          refine lv_if_eq (tgt := 68) hx hb dX1_measureOf_56 (by decide) (fun hc => ?_) (fun hc => ?_)
          · replace hw := hw.1 hc
            clear hc
            exact jn_68 _ _ x1 x2 x3 x4 x6 hB hK81 ls hw (lv_sub hl [0, 1, 2, 3, 4, 6] rfl)
          · replace hw := hw.2 hc
            clear hc
            refine lv_iload_n hx hb dX1_measureOf_59 rfl (lv_at hl 2 rfl) ?_
            refine lv_iload hx hb dX1_measureOf_60 (lv_at hl 6 rfl) ?_
            refine vp_callSi (W.runS (As := [.int x2, .int x6]) (rest := []) ⟨hx, hb, hml, hown, hts⟩ (cM_has l x2 x6 _ hw) (va_cwS 2 hts gX1_measureOf_X1_has rfl rfl rfl (by decide +kernel) ⟨Nat.le_of_ble_eq_true rfl, Nat.le_of_ble_eq_true rfl⟩) ⟨fun a U g mk q => q, fun U hU hW => ⟨rfl, trivial⟩⟩ rfl rfl hl.1 rfl (lv_room (Nat.le_of_ble_eq_true rfl)) dX1_measureOf_62 ⟨Nat.zero_le _, Nat.zero_le _⟩) (fun r_1 hw => ?_)
            try dsimp only at hw
            refine lv_if_ne (tgt := 72) hx hb dX1_measureOf_65 (by decide) (fun hc => ?_) (fun hc => ?_)
            · replace hw := hw.1 hc
              clear hc
              exact jn_72 _ _ x1 x2 x3 x4 x6 hB hK81 ls hw (lv_sub hl [0, 1, 2, 3, 4, 6] rfl)
            · replace hw := hw.2 hc
              clear hc
              exact jn_68 _ _ x1 x2 x3 x4 x6 hB hK81 ls hw (lv_sub hl [0, 1, 2, 3, 4, 6] rfl)
  have jn_114 : ∀ (B : Int32 → Int32 → Prop) (x1 : Int32) (x2 : Int32) (x4 : Int32) (y0 : Int32) (y1 : Int32) (y2 : Int32) (hB : ∀ (x3 : Int32) (x4 : Int32) (ls : Array Slot), B x3 x4 → lv_has ls 7 [(0, .ref h), (1, .int x1), (2, .int x2), (3, .int x3), (4, .int x4)] → W p l e (headSpec wsX1_measureOf ({ frames := 1, cells := 0, slots := 0, locals := 21 })).room s m args below meth c s.heap [] 0 0 (MQ below (vp_Si P) args s 0 0 (fun _ => False)) (F0 m 5 ls [])) (ls : Array Slot), wM_measureOf_j114 P tc cl tr g B x1 x2 x4 y0 y1 y2 → lv_has ls 7 [(0, .ref h), (1, .int x1), (2, .int x2), (4, .int x4)] → W p l e (headSpec wsX1_measureOf ({ frames := 1, cells := 0, slots := 0, locals := 21 })).room s m args below meth c s.heap [] 0 0 (MQ below (vp_Si P) args s 0 0 (fun _ => False)) (F0 m 114 ls [.int y2, .int y1, .int y0]) := by
    intro B x1 x2 x4 y0 y1 y2 hB ls hw hl
    unfold wM_measureOf_j114 at hw
    refine lv_iadd hx hb dX1_measureOf_114 ?_
    refine lv_iadd hx hb dX1_measureOf_115 ?_
    refine lv_topi (fun x3_2 hv => ?_)
    replace hw := hw x3_2 hv
    clear hv
    refine lv_istore_n (lv' := [(3, .int x3_2), (0, .ref h), (1, .int x1), (2, .int x2), (4, .int x4)]) hx hb dX1_measureOf_116 rfl hl (by decide) rfl (fun ls hl => ?_)
    refine lv_iinc (v := (x4 + 1)) (lv' := [(4, .int ((x4 + 1))), (3, .int x3_2), (0, .ref h), (1, .int x1), (2, .int x2)]) hx hb dX1_measureOf_117 hl (k := 4) rfl rfl (by decide) rfl (fun ls hl => ?_)
    refine lv_goto (tgt := 5) hx hb dX1_measureOf_120 (by decide) ?_
    exact hB x3_2 (x4 + 1) ls hw (lv_sub hl [2, 3, 4, 1, 0] rfl)
  have jn_113 : ∀ (B : Int32 → Int32 → Prop) (x1 : Int32) (x2 : Int32) (x4 : Int32) (y0 : Int32) (y1 : Int32) (hB : ∀ (x3 : Int32) (x4 : Int32) (ls : Array Slot), B x3 x4 → lv_has ls 7 [(0, .ref h), (1, .int x1), (2, .int x2), (3, .int x3), (4, .int x4)] → W p l e (headSpec wsX1_measureOf ({ frames := 1, cells := 0, slots := 0, locals := 21 })).room s m args below meth c s.heap [] 0 0 (MQ below (vp_Si P) args s 0 0 (fun _ => False)) (F0 m 5 ls [])) (ls : Array Slot), wM_measureOf_j113 P tc cl tr g B x1 x2 x4 y0 y1 → lv_has ls 7 [(0, .ref h), (1, .int x1), (2, .int x2), (4, .int x4)] → W p l e (headSpec wsX1_measureOf ({ frames := 1, cells := 0, slots := 0, locals := 21 })).room s m args below meth c s.heap [] 0 0 (MQ below (vp_Si P) args s 0 0 (fun _ => False)) (F0 m 113 ls [.int y1, .int y0]) := by
    intro B x1 x2 x4 y0 y1 hB ls hw hl
    unfold wM_measureOf_j113 at hw
    refine lv_iconst (v := (0 : Int32)) hx hb dX1_measureOf_113 (by decide) ?_
    exact jn_114 _ x1 x2 x4 y0 y1 (0 : Int32) hB ls hw (lv_sub hl [0, 1, 2, 3] rfl)
  have jn_98 : ∀ (B : Int32 → Int32 → Prop) (x1 : Int32) (x2 : Int32) (x4 : Int32) (x5 : Int32) (y0 : Int32) (y1 : Int32) (y2 : Int32) (hB : ∀ (x3 : Int32) (x4 : Int32) (ls : Array Slot), B x3 x4 → lv_has ls 7 [(0, .ref h), (1, .int x1), (2, .int x2), (3, .int x3), (4, .int x4)] → W p l e (headSpec wsX1_measureOf ({ frames := 1, cells := 0, slots := 0, locals := 21 })).room s m args below meth c s.heap [] 0 0 (MQ below (vp_Si P) args s 0 0 (fun _ => False)) (F0 m 5 ls [])) (ls : Array Slot), wM_measureOf_j98 P tc cl tr g B x1 x2 x4 x5 y0 y1 y2 → lv_has ls 7 [(0, .ref h), (1, .int x1), (2, .int x2), (4, .int x4), (5, .int x5)] → W p l e (headSpec wsX1_measureOf ({ frames := 1, cells := 0, slots := 0, locals := 21 })).room s m args below meth c s.heap [] 0 0 (MQ below (vp_Si P) args s 0 0 (fun _ => False)) (F0 m 98 ls [.int y2, .int y1, .int y0]) := by
    intro B x1 x2 x4 x5 y0 y1 y2 hB ls hw hl
    unfold wM_measureOf_j98 at hw
    refine lv_iadd hx hb dX1_measureOf_98 ?_
    refine lv_iload_n hx hb dX1_measureOf_99 rfl (lv_at hl 1 rfl) ?_
    refine lv_iconst (v := (2 : Int32)) hx hb dX1_measureOf_100 (by decide) ?_
    refine lv_icmp_ne (tgt := 113) hx hb dX1_measureOf_101 (by decide) (fun hc => ?_) (fun hc => ?_)
    · replace hw := hw.1 hc
      clear hc
      exact jn_113 _ x1 x2 x4 y0 (y1 + y2) hB ls hw (lv_sub hl [0, 1, 2, 3] rfl)
    · replace hw := hw.2 hc
      clear hc
      refine lv_iload hx hb dX1_measureOf_104 (lv_at hl 4 rfl) ?_
      refine lv_if_eq (tgt := 113) hx hb dX1_measureOf_106 (by decide) (fun hc => ?_) (fun hc => ?_)
      · replace hw := hw.1 hc
        clear hc
        exact jn_113 _ x1 x2 x4 y0 (y1 + y2) hB ls hw (lv_sub hl [0, 1, 2, 3] rfl)
      · replace hw := hw.2 hc
        clear hc
        refine lv_iconst (v := (1 : Int32)) hx hb dX1_measureOf_109 (by decide) ?_
        refine lv_goto (tgt := 114) hx hb dX1_measureOf_110 (by decide) ?_
        exact jn_114 _ x1 x2 x4 y0 (y1 + y2) (1 : Int32) hB ls hw (lv_sub hl [0, 1, 2, 3] rfl)
  have lp_5 : ∀ (x1 : Int32) (x2 : Int32), ∀ (n : Nat) (x3 : Int32) (x4 : Int32) (ls : Array Slot), Lp2 (wM_measureOf_b5 P tc cl tr g x1 x2) n x3 x4 → lv_has ls 7 [(0, .ref h), (1, .int x1), (2, .int x2), (3, .int x3), (4, .int x4)] → W p l e (headSpec wsX1_measureOf ({ frames := 1, cells := 0, slots := 0, locals := 21 })).room s m args below meth c s.heap [] 0 0 (MQ below (vp_Si P) args s 0 0 (fun _ => False)) (F0 m 5 ls []) := by
    intro x1 x2
    intro n
    induction n with
    | zero => intro x3 x4 ls hw; exact False.elim hw
    | succ n hB =>
      intro x3 x4 ls hw hl
      replace hw : wM_measureOf_b5 P tc cl tr g x1 x2 (Lp2 (wM_measureOf_b5 P tc cl tr g x1 x2) n) x3 x4 := hw
      unfold wM_measureOf_b5 at hw
      refine lv_iload hx hb dX1_measureOf_5 (lv_at hl 4 rfl) ?_
      refine lv_aload_n hx hb dX1_measureOf_7 rfl (lv_at hl 0 rfl) ?_
      refine va_get (D := (dC, dI)) (ci := 1) (C := RX1) (T := TX1) (N := 9) hx hb hts inw hown hK hP 0 rfl rfl 0 (by decide) f7 (fun _ h9 => h9) rfl dX1_measureOf_8 ?_
      refine lv_icmp_ge (tgt := 123) hx hb dX1_measureOf_11 (by decide) (fun hc => ?_) (fun hc => ?_)
      · replace hw := hw.1 hc
        clear hc
        refine lv_iload_n hx hb dX1_measureOf_123 rfl (lv_at hl 3 rfl) ?_
        exact W.iret (v := x3) hx hb hr (fun t ht hW => ⟨_, rfl, hw, ht⟩) (fun q h => absurd h List.not_mem_nil) dX1_measureOf_124
      · replace hw := hw.2 hc
        clear hc
        refine lv_iload_n hx hb dX1_measureOf_14 rfl (lv_at hl 2 rfl) ?_
        refine lv_iload hx hb dX1_measureOf_15 (lv_at hl 4 rfl) ?_
        refine vp_callSi (W.runS (As := [.int x2, .int x4]) (rest := []) ⟨hx, hb, hml, hown, hts⟩ (cM_has l x2 x4 _ hw) (va_cwS 2 hts gX1_measureOf_X1_has rfl rfl rfl (by decide +kernel) ⟨Nat.le_of_ble_eq_true rfl, Nat.le_of_ble_eq_true rfl⟩) ⟨fun a U g mk q => q, fun U hU hW => ⟨rfl, trivial⟩⟩ rfl rfl hl.1 rfl (lv_room (Nat.le_of_ble_eq_true rfl)) dX1_measureOf_17 ⟨Nat.zero_le _, Nat.zero_le _⟩) (fun r_3 hw => ?_)
        try dsimp only at hw
        refine lv_if_eq (tgt := 117) hx hb dX1_measureOf_20 (by decide) (fun hc => ?_) (fun hc => ?_)
        · replace hw := hw.1 hc
          clear hc
          refine lv_iinc (v := (x4 + 1)) (lv' := [(4, .int ((x4 + 1))), (0, .ref h), (1, .int x1), (2, .int x2), (3, .int x3)]) hx hb dX1_measureOf_117 hl (k := 4) rfl rfl (by decide) rfl (fun ls hl => ?_)
          refine lv_goto (tgt := 5) hx hb dX1_measureOf_120 (by decide) ?_
          exact hB x3 (x4 + 1) ls hw (lv_sub hl [1, 2, 3, 4, 0] rfl)
        · replace hw := hw.2 hc
          clear hc
          refine lv_iconst (v := (1 : Int32)) hx hb dX1_measureOf_23 (by decide) ?_
          refine lv_istore (lv' := [(5, .int (1 : Int32)), (0, .ref h), (1, .int x1), (2, .int x2), (3, .int x3), (4, .int x4)]) hx hb dX1_measureOf_24 hl (by decide) rfl (fun ls hl => ?_)
          refine lv_iconst (v := (0 : Int32)) hx hb dX1_measureOf_26 (by decide) ?_
          refine lv_istore (lv' := [(6, .int (0 : Int32)), (5, .int (1 : Int32)), (0, .ref h), (1, .int x1), (2, .int x2), (3, .int x3), (4, .int x4)]) hx hb dX1_measureOf_27 hl (by decide) rfl (fun ls hl => ?_)
          obtain ⟨n_5, hw⟩ := hw
          refine lp_29 x1 x2 x3 x4 _ ?_ n_5 (1 : Int32) (0 : Int32) ls hw (lv_sub hl [2, 3, 4, 5, 6, 1, 0] rfl)
          · intro x5_4 ls hw hl
            try dsimp only at hw
            refine lv_iload_n hx hb dX1_measureOf_81 rfl (lv_at hl 3 rfl) ?_
            refine lv_iconst (v := (1 : Int32)) hx hb dX1_measureOf_82 (by decide) ?_
            refine lv_iload_n hx hb dX1_measureOf_83 rfl (lv_at hl 1 rfl) ?_
            refine lv_if_le (tgt := 97) hx hb dX1_measureOf_84 (by decide) (fun hc => ?_) (fun hc => ?_)
            · replace hw := hw.1 hc
              clear hc
              refine lv_iconst (v := (0 : Int32)) hx hb dX1_measureOf_97 (by decide) ?_
              exact jn_98 _ x1 x2 x4 x5_4 x3 (1 : Int32) (0 : Int32) hB ls hw (lv_sub hl [0, 1, 2, 4, 5] rfl)
            · replace hw := hw.2 hc
              clear hc
              refine lv_aload_n hx hb dX1_measureOf_87 rfl (lv_at hl 0 rfl) ?_
              refine va_get (D := (dC, dI)) (ci := 1) (C := RX1) (T := TX1) (N := 9) hx hb hts inw hown hK hP 0 rfl rfl 2 (by decide) f17 (fun _ h9 => h9) rfl dX1_measureOf_88 ?_
              refine lv_iload hx hb dX1_measureOf_91 (lv_at hl 4 rfl) ?_
              obtain ⟨hin, hw⟩ := hw
              refine va_iald hx hb hK hP 2 1 rfl rfl hin dX1_measureOf_93 ?_
              refine lv_goto (tgt := 98) hx hb dX1_measureOf_94 (by decide) ?_
              exact jn_98 _ x1 x2 x4 x5_4 x3 (1 : Int32) (g 2 (x4).toNatClampNeg) hB ls hw (lv_sub hl [0, 1, 2, 4, 5] rfl)
  subst hargs
  unfold wM_measureOf at hw
  have hl := lv_entry ([.ref h, .int x1, .int x2]) (n := 7) (Nat.le_of_ble_eq_true rfl)
  rw [lg_entry_eq]
  generalize (lg_sl ([.ref h, .int x1, .int x2]) ++ List.replicate (7 - (lg_sl ([.ref h, .int x1, .int x2])).length) Slot.unset).toArray = ls at hl ⊢
  have hl : lv_has ls 7 [(0, .ref h), (1, .int x1), (2, .int x2)] := hl
  refine lv_iconst (v := (0 : Int32)) hx hb dX1_measureOf_0 (by decide) ?_
  refine lv_istore_n (lv' := [(3, .int (0 : Int32)), (0, .ref h), (1, .int x1), (2, .int x2)]) hx hb dX1_measureOf_1 rfl hl (by decide) rfl (fun ls hl => ?_)
  refine lv_iconst (v := (0 : Int32)) hx hb dX1_measureOf_2 (by decide) ?_
  refine lv_istore (lv' := [(4, .int (0 : Int32)), (3, .int (0 : Int32)), (0, .ref h), (1, .int x1), (2, .int x2)]) hx hb dX1_measureOf_3 hl (by decide) rfl (fun ls hl => ?_)
  obtain ⟨n_6, hw⟩ := hw
  exact lp_5 x1 x2 n_6 (0 : Int32) (0 : Int32) ls hw (lv_sub hl [2, 3, 4, 1, 0] rfl)
-- X1_measure
set_option maxHeartbeats 4000000 in
set_option maxRecDepth 100000 in
theorem cM_measure (l : Launch) (dC : Nat → ClassId) (dI : Nat → Nat → Nat) (h : Nat) (ad : Nat → Nat) (ca : Nat → ClassId) (sz : Nat) (tc cl : Int32) (tr : Int64) (g : Sg) (x1 : Int32) (x2 : Int32) (P : Int32 → Int32 → Int32 → Int64 → Sg → Prop) (hw : wM_measure P tc cl tr g x1 x2) : Met l yX1_measure wsX1_measure ({ frames := 2, cells := 0, slots := 0, locals := 47 }) (va_Pc [.ref h, .int x1, .int x2] (fun U => U.heap.size = sz ∧ va_P (dC, dI) vwCl (ML h ad ca tc cl tr g) U.heap ∧ va_K (dC, dI) vwCl (MT ca) U ∧ va_D (fun _ => True) (ML h ad ca tc cl tr g))) (va_Qi (fun (r : Int32) (u : Int32 × Int32 × Int64 × Sg) => P r u.1 u.2.1 u.2.2.1 u.2.2.2) (at_M2 dC dI (va_A (ML h ad ca tc cl tr g) sz) h ad ca) (va_A (ML h ad ca tc cl tr g) sz)) 0 0 (va_A (ML h ad ca tc cl tr g) sz) := by
  refine Met.ofW (cc := cX1_measure) (maxL := 3) (ret := (some .int)) (by decide) rfl ?_
  intro p e s m args below meth c s₁ B0 hml hv
  obtain ⟨hargs, hsz, hP, hK, hD0⟩ := hv
  have hx := B0.exec
  have hb := B0.bytes
  have hr := B0.returns
  have hts := atoms_spec (ws := wsX1_measure) B0.pre
  have hown : s.vm.findClass RX1 = some m.cls := findClass_of_methodNamed B0.named
  have hlocks := B0.notSynchronized
  have inw : ∀ w ∈ wsX10, w ∈ wsX1_measure := fun w h => List.mem_cons_of_mem _ (List.mem_append_right _ h)
  have f71 : (Cond.fieldLink RX1 71 "FlipHeapsModel" "trace" "J").before args s = true := hts _ (by decide +kernel)
  have k44 : (Cond.constant RX1 44 (-1000000)).before args s = true := hts _ (by decide +kernel)
  have k75 : (Cond.constantLong RX1 75 (11)).before args s = true := hts _ (by decide +kernel)
  have k77 : (Cond.constantLong RX1 77 (111)).before args s = true := hts _ (by decide +kernel)
  subst hsz
  have hD := hD0.self (sz := s.heap.size)
  generalize hAe : va_A (ML h ad ca tc cl tr g) s.heap.size = A at hD ⊢
  have hA : ∀ q : Nat, s.heap.size ≤ q → A q := fun q h => by rw [← hAe]; exact Or.inr h
  clear hAe hD0
  have hS : va_S A s.heap s.heap [] := va_S.rf
  have jn_47 : ∀ (x1 : Int32) (x2 : Int32) (y1 : Int64) (y2 : Int64) (tc : Int32) (cl : Int32) (tr : Int64) (g : Sg) (H : Heap) (locs : List Loc) (ls : Array Slot), wM_measure_j47 P x1 x2 y1 y2 tc cl tr g → va_P (dC, dI) vwCl (ML h ad ca tc cl tr g) H → va_D A (ML h ad ca tc cl tr g) → va_S A s.heap H locs → lv_has ls 3 [(0, .ref h), (1, .int x1), (2, .int x2)] → W p l e (headSpec wsX1_measure ({ frames := 2, cells := 0, slots := 0, locals := 47 })).room s m args below meth c H locs 0 0 (MQ below (va_Qi (fun (r : Int32) (u : Int32 × Int32 × Int64 × Sg) => P r u.1 u.2.1 u.2.2.1 u.2.2.2) (at_M2 dC dI A h ad ca) A) args s 0 0 A) (F0 m 47 ls [.long y2, .long y1, .ref h]) := by
    intro x1 x2 y1 y2 tc cl tr g H locs ls hw hP hD hS hl
    unfold wM_measure_j47 at hw
    refine lv_ladd hx hb dX1_measure_47 ?_
    refine lv_topl (fun tr_1 hv => ?_)
    replace hw := hw tr_1 hv
    clear hv
    refine va_put (D := (dC, dI)) (ci := 1) (v := .long tr_1) (ty := .long) (C := RX1) (T := TX1) (N := 9) hx hb hts inw tyX1 tyX1_ok nmX1 hown hK hP hD hS 0 rfl rfl 5 (by decide) f71 (fun _ h9 => h9) rfl (by decide +kernel) rfl rfl (Nat.le_of_ble_eq_true rfl) dX1_measure_48 (fun H locs hP hD hS => ?_)
    have hP : va_P (dC, dI) vwCl (ML h ad ca tc cl tr_1 g) H := hP
    have hD : va_D A (ML h ad ca tc cl tr_1 g) := hD
    refine lv_aload_n hx hb dX1_measure_51 rfl (lv_at hl 0 rfl) ?_
    refine lv_iload_n hx hb dX1_measure_52 rfl (lv_at hl 1 rfl) ?_
    refine lv_iload_n hx hb dX1_measure_53 rfl (lv_at hl 2 rfl) ?_
    refine vp_callSi (W.runV (As := [.int x1, .int x2]) (rest := []) ⟨hx, hb, hml, hown, hts⟩ (cM_measureOf l dC dI h ad ca tc cl tr_1 g x1 x2 _ hw) (cwV 2 hts gX1_measure_X1_measureOf rfl rfl rfl (by decide +kernel) ⟨Nat.le_of_ble_eq_true rfl, Nat.le_of_ble_eq_true rfl⟩) ⟨fun a U g mk q => by obtain ⟨q0, qP, qK⟩ := q; exact ⟨q0, qP, va_K.moved (u := U) (U := U.calling g mk a) (Vm.Alike.refl U.vm) qK⟩, va_recv hK hP (ci := 1) (q0 := 0) rfl rfl, fun U hU hW => ⟨rfl, by rw [hU]; exact hP, va_K.moved hW.alike hK⟩⟩ rfl rfl hl.1 rfl (lv_room (Nat.le_of_ble_eq_true rfl)) dX1_measure_54 ⟨Nat.zero_le _, Nat.zero_le _⟩) (fun r_2 hw => ?_)
    try dsimp only at hw
    exact W.iret (v := r_2) hx hb hr (fun t ht hW => ⟨⟨r_2, (tc, cl, tr_1, g), rfl, hw, by rw [ht]; exact hP, va_K.moved hW.alike hK, hD⟩, hS.F ht⟩) hS.2.2 dX1_measure_57
  subst hargs
  unfold wM_measure at hw
  have hl := lv_entry ([.ref h, .int x1, .int x2]) (n := 3) (Nat.le_of_ble_eq_true rfl)
  rw [lg_entry_eq]
  generalize (lg_sl ([.ref h, .int x1, .int x2]) ++ List.replicate (3 - (lg_sl ([.ref h, .int x1, .int x2])).length) Slot.unset).toArray = ls at hl ⊢
  have hl : lv_has ls 3 [(0, .ref h), (1, .int x1), (2, .int x2)] := hl
  obtain ⟨H, hHe⟩ : ∃ z : Heap, z = s.heap := ⟨_, rfl⟩
  obtain ⟨locs, hLe⟩ : ∃ z : List Loc, z = [] := ⟨_, rfl⟩
  have hS : va_S A s.heap H locs := by rw [hHe, hLe]; exact hS
  have hP : va_P (dC, dI) vwCl (ML h ad ca tc cl tr g) H := by rw [hHe]; exact hP
  have hgo : W p l e (headSpec wsX1_measure ({ frames := 2, cells := 0, slots := 0, locals := 47 })).room s m ([.ref h, .int x1, .int x2] : List Value).toArray below meth c H locs 0 0 (MQ below (va_Qi (fun (r : Int32) (u : Int32 × Int32 × Int64 × Sg) => P r u.1 u.2.1 u.2.2.1 u.2.2.2) (at_M2 dC dI A h ad ca) A) ([.ref h, .int x1, .int x2] : List Value).toArray s 0 0 A) (F0 m 0 ls []) := by
    clear hHe hLe
    refine lv_iload_n hx hb dX1_measure_0 rfl (lv_at hl 1 rfl) ?_
    refine lv_iconst (v := (0 : Int32)) hx hb dX1_measure_1 (by decide) ?_
    refine lv_iconst (v := (2 : Int32)) hx hb dX1_measure_2 (by decide) ?_
    refine vp_callSi (W.runS (As := [.int x1, .int (0 : Int32), .int (2 : Int32)]) (rest := []) ⟨hx, hb, hml, hown, hts⟩ (cM_in l x1 (0 : Int32) (2 : Int32) _ hw) (va_cwS 3 hts gX1_measure_X1_in rfl rfl rfl (by decide +kernel) ⟨Nat.le_of_ble_eq_true rfl, Nat.le_of_ble_eq_true rfl⟩) ⟨fun a U g mk q => q, fun U hU hW => ⟨rfl, trivial⟩⟩ rfl rfl hl.1 rfl (lv_room (Nat.le_of_ble_eq_true rfl)) dX1_measure_3 ⟨Nat.zero_le _, Nat.zero_le _⟩) (fun r_3 hw => ?_)
    try dsimp only at hw
    refine lv_if_eq (tgt := 17) hx hb dX1_measure_6 (by decide) (fun hc => ?_) (fun hc => ?_)
    · replace hw := hw.1 hc
      clear hc
      refine lv_ldc (v := (-1000000 : Int32)) hx hb hown k44 dX1_measure_17 ?_
      exact W.iret (v := (-1000000 : Int32)) hx hb hr (fun t ht hW => ⟨⟨(-1000000 : Int32), (tc, cl, tr, g), rfl, hw, by rw [ht]; exact hP, va_K.moved hW.alike hK, hD⟩, hS.F ht⟩) hS.2.2 dX1_measure_19
    · replace hw := hw.2 hc
      clear hc
      refine lv_aload_n hx hb dX1_measure_9 rfl (lv_at hl 0 rfl) ?_
      refine lv_iload_n hx hb dX1_measure_10 rfl (lv_at hl 2 rfl) ?_
      refine vp_callSi (W.runV (As := [.int x2]) (rest := []) ⟨hx, hb, hml, hown, hts⟩ (cM_isHeap l dC dI h ad ca tc cl tr g x2 _ hw) (cwV 1 hts gX1_measure_X1_isHeap rfl rfl rfl (by decide +kernel) ⟨Nat.le_of_ble_eq_true rfl, Nat.le_of_ble_eq_true rfl⟩) ⟨fun a U g mk q => by obtain ⟨q0, qP, qK⟩ := q; exact ⟨q0, qP, va_K.moved (u := U) (U := U.calling g mk a) (Vm.Alike.refl U.vm) qK⟩, va_recv hK hP (ci := 1) (q0 := 0) rfl rfl, fun U hU hW => ⟨rfl, by rw [hU]; exact hP, va_K.moved hW.alike hK⟩⟩ rfl rfl hl.1 rfl (lv_room (Nat.le_of_ble_eq_true rfl)) dX1_measure_11 ⟨Nat.zero_le _, Nat.zero_le _⟩) (fun r_4 hw => ?_)
      try dsimp only at hw
      refine lv_if_ne (tgt := 20) hx hb dX1_measure_14 (by decide) (fun hc => ?_) (fun hc => ?_)
      · replace hw := hw.1 hc
        clear hc
        refine lv_aload_n hx hb dX1_measure_20 rfl (lv_at hl 0 rfl) ?_
        refine lv_dup hx hb dX1_measure_21 rfl ?_
        refine va_get (D := (dC, dI)) (ci := 1) (C := RX1) (T := TX1) (N := 9) hx hb hts inw hown hK hP 0 rfl rfl 5 (by decide) f71 (fun _ h9 => h9) rfl dX1_measure_22 ?_
        refine lv_iload_n hx hb dX1_measure_25 rfl (lv_at hl 1 rfl) ?_
        refine lv_if_ne (tgt := 33) hx hb dX1_measure_26 (by decide) (fun hc => ?_) (fun hc => ?_)
        · replace hw := hw.1 hc
          clear hc
          refine lv_iload_n hx hb dX1_measure_33 rfl (lv_at hl 1 rfl) ?_
          refine lv_iconst (v := (1 : Int32)) hx hb dX1_measure_34 (by decide) ?_
          refine lv_icmp_ne (tgt := 44) hx hb dX1_measure_35 (by decide) (fun hc => ?_) (fun hc => ?_)
          · replace hw := hw.1 hc
            clear hc
            refine lv_ldc2 (v := (111 : Int64)) hx hb hown k77 dX1_measure_44 ?_
            exact jn_47 x1 x2 tr (111 : Int64) tc cl tr g H locs ls hw hP hD hS (lv_sub hl [0, 1, 2] rfl)
          · replace hw := hw.2 hc
            clear hc
            refine lv_ldc2 (v := (11 : Int64)) hx hb hown k75 dX1_measure_38 ?_
            refine lv_goto (tgt := 47) hx hb dX1_measure_41 (by decide) ?_
            exact jn_47 x1 x2 tr (11 : Int64) tc cl tr g H locs ls hw hP hD hS (lv_sub hl [0, 1, 2] rfl)
        · replace hw := hw.2 hc
          clear hc
          refine lv_lconst (v := (1 : Int64)) hx hb dX1_measure_29 (by decide) ?_
          refine lv_goto (tgt := 47) hx hb dX1_measure_30 (by decide) ?_
          exact jn_47 x1 x2 tr (1 : Int64) tc cl tr g H locs ls hw hP hD hS (lv_sub hl [0, 1, 2] rfl)
      · replace hw := hw.2 hc
        clear hc
        refine lv_ldc (v := (-1000000 : Int32)) hx hb hown k44 dX1_measure_17 ?_
        exact W.iret (v := (-1000000 : Int32)) hx hb hr (fun t ht hW => ⟨⟨(-1000000 : Int32), (tc, cl, tr, g), rfl, hw, by rw [ht]; exact hP, va_K.moved hW.alike hK, hD⟩, hS.F ht⟩) hS.2.2 dX1_measure_19
  rw [hHe, hLe] at hgo
  exact hgo
-- X1_sumOf
set_option maxHeartbeats 4000000 in
set_option maxRecDepth 100000 in
theorem cM_sumOf (l : Launch) (dC : Nat → ClassId) (dI : Nat → Nat → Nat) (h : Nat) (ad : Nat → Nat) (ca : Nat → ClassId) (tc cl : Int32) (tr : Int64) (g : Sg) (x1 : Int32) (x2 : Int32) (x3 : Int32) (P : Int32 → Prop) (hw : wM_sumOf P tc cl tr g x1 x2 x3) : Met l yX1_sumOf wsX1_sumOf ({ frames := 4, cells := 0, slots := 0, locals := 97 }) (va_Pc [.ref h, .int x1, .int x2, .int x3] (fun U => va_P (dC, dI) vwCl (ML h ad ca tc cl tr g) U.heap ∧ va_K (dC, dI) vwCl (MT ca) U)) (vp_Si P) 0 0 (fun _ => False) := by
  refine Met.ofW (cc := cX1_sumOf) (maxL := 6) (ret := (some .int)) (by decide) rfl ?_
  intro p e s m args below meth c s₁ B0 hml hv
  obtain ⟨hargs, hP, hK⟩ := hv
  have hx := B0.exec
  have hb := B0.bytes
  have hr := B0.returns
  have hts := atoms_spec (ws := wsX1_sumOf) B0.pre
  have hown : s.vm.findClass RX1 = some m.cls := findClass_of_methodNamed B0.named
  have hlocks := B0.notSynchronized
  have inw : ∀ w ∈ wsX10, w ∈ wsX1_sumOf := fun w h => List.mem_cons_of_mem _ (List.mem_append_right _ h)
  have lp_16 : ∀ (x1 : Int32) (x2 : Int32) (x3 : Int32), ∀ (n : Nat) (x4 : Int32) (x5 : Int32) (ls : Array Slot), Lp2 (wM_sumOf_b16 P tc cl tr g x1 x2 x3) n x4 x5 → lv_has ls 6 [(0, .ref h), (1, .int x1), (2, .int x2), (3, .int x3), (4, .int x4), (5, .int x5)] → W p l e (headSpec wsX1_sumOf ({ frames := 4, cells := 0, slots := 0, locals := 97 })).room s m args below meth c s.heap [] 0 0 (MQ below (vp_Si P) args s 0 0 (fun _ => False)) (F0 m 16 ls []) := by
    intro x1 x2 x3
    intro n
    induction n with
    | zero => intro x4 x5 ls hw; exact False.elim hw
    | succ n hB =>
      intro x4 x5 ls hw hl
      replace hw : wM_sumOf_b16 P tc cl tr g x1 x2 x3 (Lp2 (wM_sumOf_b16 P tc cl tr g x1 x2 x3) n) x4 x5 := hw
      unfold wM_sumOf_b16 at hw
      refine lv_iload hx hb dX1_sumOf_16 (lv_at hl 5 rfl) ?_
      refine lv_iload_n hx hb dX1_sumOf_18 rfl (lv_at hl 1 rfl) ?_
      refine lv_icmp_eq (tgt := 46) hx hb dX1_sumOf_19 (by decide) (fun hc => ?_) (fun hc => ?_)
      · replace hw := hw.1 hc
        clear hc
        refine lv_iload hx hb dX1_sumOf_46 (lv_at hl 4 rfl) ?_
        exact W.iret (v := x4) hx hb hr (fun t ht hW => ⟨_, rfl, hw, ht⟩) (fun q h => absurd h List.not_mem_nil) dX1_sumOf_48
      · replace hw := hw.2 hc
        clear hc
        refine lv_iload hx hb dX1_sumOf_22 (lv_at hl 4 rfl) ?_
        refine lv_aload_n hx hb dX1_sumOf_24 rfl (lv_at hl 0 rfl) ?_
        refine lv_iload_n hx hb dX1_sumOf_25 rfl (lv_at hl 3 rfl) ?_
        refine lv_iload hx hb dX1_sumOf_26 (lv_at hl 5 rfl) ?_
        refine vp_callSi (W.runV (As := [.int x3, .int x5]) (rest := [.int x4]) ⟨hx, hb, hml, hown, hts⟩ (cM_measureOf l dC dI h ad ca tc cl tr g x3 x5 _ hw) (cwV 2 hts gX1_sumOf_X1_measureOf rfl rfl rfl (by decide +kernel) ⟨Nat.le_of_ble_eq_true rfl, Nat.le_of_ble_eq_true rfl⟩) ⟨fun a U g mk q => by obtain ⟨q0, qP, qK⟩ := q; exact ⟨q0, qP, va_K.moved (u := U) (U := U.calling g mk a) (Vm.Alike.refl U.vm) qK⟩, va_recv hK hP (ci := 1) (q0 := 0) rfl rfl, fun U hU hW => ⟨rfl, by rw [hU]; exact hP, va_K.moved hW.alike hK⟩⟩ rfl rfl hl.1 rfl (lv_room (Nat.le_of_ble_eq_true rfl)) dX1_sumOf_28 ⟨Nat.zero_le _, Nat.zero_le _⟩) (fun r_1 hw => ?_)
        try dsimp only at hw
        refine lv_iadd hx hb dX1_sumOf_31 ?_
        refine lv_topi (fun x4_2 hv => ?_)
        replace hw := hw x4_2 hv
        clear hv
        refine lv_istore (lv' := [(4, .int x4_2), (0, .ref h), (1, .int x1), (2, .int x2), (3, .int x3), (5, .int x5)]) hx hb dX1_sumOf_32 hl (by decide) rfl (fun ls hl => ?_)
        refine lv_aload_n hx hb dX1_sumOf_34 rfl (lv_at hl 1 rfl) ?_
        refine lv_iload hx hb dX1_sumOf_35 (lv_at hl 5 rfl) ?_
        refine lv_iload_n hx hb dX1_sumOf_37 rfl (lv_at hl 3 rfl) ?_
        refine vp_callSi (W.runV (As := [.int x5, .int x2]) (rest := []) ⟨hx, hb, hml, hown, hts⟩ (cM_turned l dC dI h ad ca tc cl tr g x5 x2 _ hw) (cwV 2 hts gX1_sumOf_X1_turned rfl rfl rfl (by decide +kernel) ⟨Nat.le_of_ble_eq_true rfl, Nat.le_of_ble_eq_true rfl⟩) ⟨fun a U g mk q => by obtain ⟨q0, qP, qK⟩ := q; exact ⟨q0, qP, va_K.moved (u := U) (U := U.calling g mk a) (Vm.Alike.refl U.vm) qK⟩, va_recv hK hP (ci := 1) (q0 := 0) rfl rfl, fun U hU hW => ⟨rfl, by rw [hU]; exact hP, va_K.moved hW.alike hK⟩⟩ rfl rfl hl.1 rfl (lv_room (Nat.le_of_ble_eq_true rfl)) dX1_sumOf_38 ⟨Nat.zero_le _, Nat.zero_le _⟩) (fun r_3 hw => ?_)
        try dsimp only at hw
        refine lv_istore (lv' := [(5, .int r_3), (4, .int x4_2), (0, .ref h), (1, .int x1), (2, .int x2), (3, .int x3)]) hx hb dX1_sumOf_41 hl (by decide) rfl (fun ls hl => ?_)
        refine lv_goto (tgt := 16) hx hb dX1_sumOf_43 (by decide) ?_
        exact hB x4_2 r_3 ls hw (lv_sub hl [2, 3, 4, 5, 1, 0] rfl)
  subst hargs
  unfold wM_sumOf at hw
  have hl := lv_entry ([.ref h, .int x1, .int x2, .int x3]) (n := 6) (Nat.le_of_ble_eq_true rfl)
  rw [lg_entry_eq]
  generalize (lg_sl ([.ref h, .int x1, .int x2, .int x3]) ++ List.replicate (6 - (lg_sl ([.ref h, .int x1, .int x2, .int x3])).length) Slot.unset).toArray = ls at hl ⊢
  have hl : lv_has ls 6 [(0, .ref h), (1, .int x1), (2, .int x2), (3, .int x3)] := hl
  refine lv_aload_n hx hb dX1_sumOf_0 rfl (lv_at hl 0 rfl) ?_
  refine lv_iload_n hx hb dX1_sumOf_1 rfl (lv_at hl 3 rfl) ?_
  refine lv_iload_n hx hb dX1_sumOf_2 rfl (lv_at hl 1 rfl) ?_
  refine vp_callSi (W.runV (As := [.int x3, .int x1]) (rest := []) ⟨hx, hb, hml, hown, hts⟩ (cM_measureOf l dC dI h ad ca tc cl tr g x3 x1 _ hw) (cwV 2 hts gX1_sumOf_X1_measureOf rfl rfl rfl (by decide +kernel) ⟨Nat.le_of_ble_eq_true rfl, Nat.le_of_ble_eq_true rfl⟩) ⟨fun a U g mk q => by obtain ⟨q0, qP, qK⟩ := q; exact ⟨q0, qP, va_K.moved (u := U) (U := U.calling g mk a) (Vm.Alike.refl U.vm) qK⟩, va_recv hK hP (ci := 1) (q0 := 0) rfl rfl, fun U hU hW => ⟨rfl, by rw [hU]; exact hP, va_K.moved hW.alike hK⟩⟩ rfl rfl hl.1 rfl (lv_room (Nat.le_of_ble_eq_true rfl)) dX1_sumOf_3 ⟨Nat.zero_le _, Nat.zero_le _⟩) (fun r_4 hw => ?_)
  try dsimp only at hw
  refine lv_istore (lv' := [(4, .int r_4), (0, .ref h), (1, .int x1), (2, .int x2), (3, .int x3)]) hx hb dX1_sumOf_6 hl (by decide) rfl (fun ls hl => ?_)
  refine lv_aload_n hx hb dX1_sumOf_8 rfl (lv_at hl 1 rfl) ?_
  refine lv_iload_n hx hb dX1_sumOf_9 rfl (lv_at hl 2 rfl) ?_
  refine lv_iload_n hx hb dX1_sumOf_10 rfl (lv_at hl 3 rfl) ?_
  refine vp_callSi (W.runV (As := [.int x1, .int x2]) (rest := []) ⟨hx, hb, hml, hown, hts⟩ (cM_turned l dC dI h ad ca tc cl tr g x1 x2 _ hw) (cwV 2 hts gX1_sumOf_X1_turned rfl rfl rfl (by decide +kernel) ⟨Nat.le_of_ble_eq_true rfl, Nat.le_of_ble_eq_true rfl⟩) ⟨fun a U g mk q => by obtain ⟨q0, qP, qK⟩ := q; exact ⟨q0, qP, va_K.moved (u := U) (U := U.calling g mk a) (Vm.Alike.refl U.vm) qK⟩, va_recv hK hP (ci := 1) (q0 := 0) rfl rfl, fun U hU hW => ⟨rfl, by rw [hU]; exact hP, va_K.moved hW.alike hK⟩⟩ rfl rfl hl.1 rfl (lv_room (Nat.le_of_ble_eq_true rfl)) dX1_sumOf_11 ⟨Nat.zero_le _, Nat.zero_le _⟩) (fun r_5 hw => ?_)
  try dsimp only at hw
  refine lv_istore (lv' := [(5, .int r_5), (4, .int r_4), (0, .ref h), (1, .int x1), (2, .int x2), (3, .int x3)]) hx hb dX1_sumOf_14 hl (by decide) rfl (fun ls hl => ?_)
  obtain ⟨n_6, hw⟩ := hw
  exact lp_16 x1 x2 x3 n_6 r_4 r_5 ls hw (lv_sub hl [2, 3, 4, 5, 1, 0] rfl)
-- X1_mean
set_option maxHeartbeats 4000000 in
set_option maxRecDepth 100000 in
theorem cM_mean (l : Launch) (dC : Nat → ClassId) (dI : Nat → Nat → Nat) (h : Nat) (ad : Nat → Nat) (ca : Nat → ClassId) (tc cl : Int32) (tr : Int64) (g : Sg) (x1 : Int32) (x2 : Int32) (x3 : Int32) (x4 : Int32) (P : Int32 → Prop) (hw : wM_mean P tc cl tr g x1 x2 x3 x4) : Met l yX1_mean wsX1_mean ({ frames := 5, cells := 0, slots := 0, locals := 122 }) (va_Pc [.ref h, .int x1, .int x2, .int x3, .int x4] (fun U => va_P (dC, dI) vwCl (ML h ad ca tc cl tr g) U.heap ∧ va_K (dC, dI) vwCl (MT ca) U)) (vp_Si P) 0 0 (fun _ => False) := by
  refine Met.ofW (cc := cX1_mean) (maxL := 8) (ret := (some .int)) (by decide) rfl ?_
  intro p e s m args below meth c s₁ B0 hml hv
  obtain ⟨hargs, hP, hK⟩ := hv
  have hx := B0.exec
  have hb := B0.bytes
  have hr := B0.returns
  have hts := atoms_spec (ws := wsX1_mean) B0.pre
  have hown : s.vm.findClass RX1 = some m.cls := findClass_of_methodNamed B0.named
  have hlocks := B0.notSynchronized
  have inw : ∀ w ∈ wsX10, w ∈ wsX1_mean := fun w h => List.mem_cons_of_mem _ (List.mem_append_right _ h)
  have k44 : (Cond.constant RX1 44 (-1000000)).before args s = true := hts _ (by decide +kernel)
  subst hargs
  unfold wM_mean at hw
  have hl := lv_entry ([.ref h, .int x1, .int x2, .int x3, .int x4]) (n := 8) (Nat.le_of_ble_eq_true rfl)
  rw [lg_entry_eq]
  generalize (lg_sl ([.ref h, .int x1, .int x2, .int x3, .int x4]) ++ List.replicate (8 - (lg_sl ([.ref h, .int x1, .int x2, .int x3, .int x4])).length) Slot.unset).toArray = ls at hl ⊢
  have hl : lv_has ls 8 [(0, .ref h), (1, .int x1), (2, .int x2), (3, .int x3), (4, .int x4)] := hl
  refine lv_aload_n hx hb dX1_mean_0 rfl (lv_at hl 0 rfl) ?_
  refine lv_iload_n hx hb dX1_mean_1 rfl (lv_at hl 1 rfl) ?_
  refine vp_callSi (W.runV (As := [.int x1]) (rest := []) ⟨hx, hb, hml, hown, hts⟩ (cM_isHeap l dC dI h ad ca tc cl tr g x1 _ hw) (cwV 1 hts gX1_mean_X1_isHeap rfl rfl rfl (by decide +kernel) ⟨Nat.le_of_ble_eq_true rfl, Nat.le_of_ble_eq_true rfl⟩) ⟨fun a U g mk q => by obtain ⟨q0, qP, qK⟩ := q; exact ⟨q0, qP, va_K.moved (u := U) (U := U.calling g mk a) (Vm.Alike.refl U.vm) qK⟩, va_recv hK hP (ci := 1) (q0 := 0) rfl rfl, fun U hU hW => ⟨rfl, by rw [hU]; exact hP, va_K.moved hW.alike hK⟩⟩ rfl rfl hl.1 rfl (lv_room (Nat.le_of_ble_eq_true rfl)) dX1_mean_2 ⟨Nat.zero_le _, Nat.zero_le _⟩) (fun r_1 hw => ?_)
  try dsimp only at hw
  refine lv_if_eq (tgt := 34) hx hb dX1_mean_5 (by decide) (fun hc => ?_) (fun hc => ?_)
  · replace hw := hw.1 hc
    clear hc
    refine lv_ldc (v := (-1000000 : Int32)) hx hb hown k44 dX1_mean_34 ?_
    exact W.iret (v := (-1000000 : Int32)) hx hb hr (fun t ht hW => ⟨_, rfl, hw, ht⟩) (fun q h => absurd h List.not_mem_nil) dX1_mean_36
  · replace hw := hw.2 hc
    clear hc
    refine lv_iload_n hx hb dX1_mean_8 rfl (lv_at hl 2 rfl) ?_
    refine vp_callSi (W.runS (As := [.int x2]) (rest := []) ⟨hx, hb, hml, hown, hts⟩ (cM_isKind l x2 _ hw) (va_cwS 1 hts gX1_mean_X1_isKind rfl rfl rfl (by decide +kernel) ⟨Nat.le_of_ble_eq_true rfl, Nat.le_of_ble_eq_true rfl⟩) ⟨fun a U g mk q => q, fun U hU hW => ⟨rfl, trivial⟩⟩ rfl rfl hl.1 rfl (lv_room (Nat.le_of_ble_eq_true rfl)) dX1_mean_9 ⟨Nat.zero_le _, Nat.zero_le _⟩) (fun r_2 hw => ?_)
    try dsimp only at hw
    refine lv_if_eq (tgt := 34) hx hb dX1_mean_12 (by decide) (fun hc => ?_) (fun hc => ?_)
    · replace hw := hw.1 hc
      clear hc
      refine lv_ldc (v := (-1000000 : Int32)) hx hb hown k44 dX1_mean_34 ?_
      exact W.iret (v := (-1000000 : Int32)) hx hb hr (fun t ht hW => ⟨_, rfl, hw, ht⟩) (fun q h => absurd h List.not_mem_nil) dX1_mean_36
    · replace hw := hw.2 hc
      clear hc
      refine lv_iload_n hx hb dX1_mean_15 rfl (lv_at hl 3 rfl) ?_
      refine lv_iconst (v := (0 : Int32)) hx hb dX1_mean_16 (by decide) ?_
      refine lv_iconst (v := (2 : Int32)) hx hb dX1_mean_17 (by decide) ?_
      refine vp_callSi (W.runS (As := [.int x3, .int (0 : Int32), .int (2 : Int32)]) (rest := []) ⟨hx, hb, hml, hown, hts⟩ (cM_in l x3 (0 : Int32) (2 : Int32) _ hw) (va_cwS 3 hts gX1_mean_X1_in rfl rfl rfl (by decide +kernel) ⟨Nat.le_of_ble_eq_true rfl, Nat.le_of_ble_eq_true rfl⟩) ⟨fun a U g mk q => q, fun U hU hW => ⟨rfl, trivial⟩⟩ rfl rfl hl.1 rfl (lv_room (Nat.le_of_ble_eq_true rfl)) dX1_mean_18 ⟨Nat.zero_le _, Nat.zero_le _⟩) (fun r_3 hw => ?_)
      try dsimp only at hw
      refine lv_if_eq (tgt := 34) hx hb dX1_mean_21 (by decide) (fun hc => ?_) (fun hc => ?_)
      · replace hw := hw.1 hc
        clear hc
        refine lv_ldc (v := (-1000000 : Int32)) hx hb hown k44 dX1_mean_34 ?_
        exact W.iret (v := (-1000000 : Int32)) hx hb hr (fun t ht hW => ⟨_, rfl, hw, ht⟩) (fun q h => absurd h List.not_mem_nil) dX1_mean_36
      · replace hw := hw.2 hc
        clear hc
        refine lv_iload hx hb dX1_mean_24 (lv_at hl 4 rfl) ?_
        refine lv_iconst (v := (0 : Int32)) hx hb dX1_mean_26 (by decide) ?_
        refine lv_iconst (v := (1 : Int32)) hx hb dX1_mean_27 (by decide) ?_
        refine vp_callSi (W.runS (As := [.int x4, .int (0 : Int32), .int (1 : Int32)]) (rest := []) ⟨hx, hb, hml, hown, hts⟩ (cM_in l x4 (0 : Int32) (1 : Int32) _ hw) (va_cwS 3 hts gX1_mean_X1_in rfl rfl rfl (by decide +kernel) ⟨Nat.le_of_ble_eq_true rfl, Nat.le_of_ble_eq_true rfl⟩) ⟨fun a U g mk q => q, fun U hU hW => ⟨rfl, trivial⟩⟩ rfl rfl hl.1 rfl (lv_room (Nat.le_of_ble_eq_true rfl)) dX1_mean_28 ⟨Nat.zero_le _, Nat.zero_le _⟩) (fun r_4 hw => ?_)
        try dsimp only at hw
        refine lv_if_ne (tgt := 37) hx hb dX1_mean_31 (by decide) (fun hc => ?_) (fun hc => ?_)
        · replace hw := hw.1 hc
          clear hc
          refine lv_aload_n hx hb dX1_mean_37 rfl (lv_at hl 0 rfl) ?_
          refine lv_iload_n hx hb dX1_mean_38 rfl (lv_at hl 1 rfl) ?_
          refine lv_iload_n hx hb dX1_mean_39 rfl (lv_at hl 2 rfl) ?_
          refine lv_iload_n hx hb dX1_mean_40 rfl (lv_at hl 3 rfl) ?_
          refine vp_callSi (W.runV (As := [.int x1, .int x2, .int x3]) (rest := []) ⟨hx, hb, hml, hown, hts⟩ (cM_sumOf l dC dI h ad ca tc cl tr g x1 x2 x3 _ hw) (cwV 3 hts gX1_mean_X1_sumOf rfl rfl rfl (by decide +kernel) ⟨Nat.le_of_ble_eq_true rfl, Nat.le_of_ble_eq_true rfl⟩) ⟨fun a U g mk q => by obtain ⟨q0, qP, qK⟩ := q; exact ⟨q0, qP, va_K.moved (u := U) (U := U.calling g mk a) (Vm.Alike.refl U.vm) qK⟩, va_recv hK hP (ci := 1) (q0 := 0) rfl rfl, fun U hU hW => ⟨rfl, by rw [hU]; exact hP, va_K.moved hW.alike hK⟩⟩ rfl rfl hl.1 rfl (lv_room (Nat.le_of_ble_eq_true rfl)) dX1_mean_41 ⟨Nat.zero_le _, Nat.zero_le _⟩) (fun r_5 hw => ?_)
          try dsimp only at hw
          refine lv_istore (lv' := [(5, .int r_5), (0, .ref h), (1, .int x1), (2, .int x2), (3, .int x3), (4, .int x4)]) hx hb dX1_mean_44 hl (by decide) rfl (fun ls hl => ?_)
          refine lv_aload_n hx hb dX1_mean_46 rfl (lv_at hl 1 rfl) ?_
          refine lv_iload_n hx hb dX1_mean_47 rfl (lv_at hl 2 rfl) ?_
          refine lv_iload_n hx hb dX1_mean_48 rfl (lv_at hl 3 rfl) ?_
          refine vp_callSi (W.runV (As := [.int x1, .int x2]) (rest := []) ⟨hx, hb, hml, hown, hts⟩ (cM_orbitOf l dC dI h ad ca tc cl tr g x1 x2 _ hw) (cwV 2 hts gX1_mean_X1_orbitOf rfl rfl rfl (by decide +kernel) ⟨Nat.le_of_ble_eq_true rfl, Nat.le_of_ble_eq_true rfl⟩) ⟨fun a U g mk q => by obtain ⟨q0, qP, qK⟩ := q; exact ⟨q0, qP, va_K.moved (u := U) (U := U.calling g mk a) (Vm.Alike.refl U.vm) qK⟩, va_recv hK hP (ci := 1) (q0 := 0) rfl rfl, fun U hU hW => ⟨rfl, by rw [hU]; exact hP, va_K.moved hW.alike hK⟩⟩ rfl rfl hl.1 rfl (lv_room (Nat.le_of_ble_eq_true rfl)) dX1_mean_49 ⟨Nat.zero_le _, Nat.zero_le _⟩) (fun r_6 hw => ?_)
          try dsimp only at hw
          refine lv_istore (lv' := [(6, .int r_6), (5, .int r_5), (0, .ref h), (1, .int x1), (2, .int x2), (3, .int x3), (4, .int x4)]) hx hb dX1_mean_52 hl (by decide) rfl (fun ls hl => ?_)
          refine lv_iload hx hb dX1_mean_54 (lv_at hl 1 rfl) ?_
          refine lv_i2l (v := Int32.toInt64 r_5) hx hb dX1_mean_56 rfl ?_
          refine lv_iload hx hb dX1_mean_57 (lv_at hl 0 rfl) ?_
          refine lv_i2l (v := Int32.toInt64 r_6) hx hb dX1_mean_59 rfl ?_
          refine vp_callSl (W.runS (As := [.long ((Int32.toInt64 r_5)), .long ((Int32.toInt64 r_6))]) (rest := []) ⟨hx, hb, hml, hown, hts⟩ (cM_common l (Int32.toInt64 r_5) (Int32.toInt64 r_6) _ hw) (va_cwS 2 hts gX1_mean_X1_common rfl rfl rfl (by decide +kernel) ⟨Nat.le_of_ble_eq_true rfl, Nat.le_of_ble_eq_true rfl⟩) ⟨fun a U g mk q => q, fun U hU hW => ⟨rfl, trivial⟩⟩ rfl rfl hl.1 rfl (lv_room (Nat.le_of_ble_eq_true rfl)) dX1_mean_60 ⟨Nat.zero_le _, Nat.zero_le _⟩) (fun r_7 hw => ?_)
          try dsimp only at hw
          refine lv_l2i (v := Int64.toInt32 r_7) hx hb dX1_mean_63 rfl ?_
          refine lv_topi (fun x7_8 hv => ?_)
          replace hw := hw x7_8 hv
          clear hv
          refine lv_istore (lv' := [(7, .int x7_8), (6, .int r_6), (5, .int r_5), (0, .ref h), (1, .int x1), (2, .int x2), (3, .int x3), (4, .int x4)]) hx hb dX1_mean_64 hl (by decide) rfl (fun ls hl => ?_)
          refine lv_iload hx hb dX1_mean_66 (lv_at hl 7 rfl) ?_
          refine lv_if_ne (tgt := 79) hx hb dX1_mean_68 (by decide) (fun hc => ?_) (fun hc => ?_)
          · replace hw := hw.1 hc
            clear hc
            refine lv_iload hx hb dX1_mean_79 (lv_at hl 1 rfl) ?_
            refine lv_iload hx hb dX1_mean_81 (lv_at hl 0 rfl) ?_
            obtain ⟨hne, hw⟩ := hw
            refine lv_idiv hx hb dX1_mean_83 hne ?_
            exact W.iret (v := (r_6 / x7_8)) hx hb hr (fun t ht hW => ⟨_, rfl, hw, ht⟩) (fun q h => absurd h List.not_mem_nil) dX1_mean_84
          · replace hw := hw.2 hc
            clear hc
            refine lv_iload hx hb dX1_mean_71 (lv_at hl 2 rfl) ?_
            refine lv_iload hx hb dX1_mean_73 (lv_at hl 0 rfl) ?_
            obtain ⟨hne, hw⟩ := hw
            refine lv_idiv hx hb dX1_mean_75 hne ?_
            refine lv_goto (tgt := 84) hx hb dX1_mean_76 (by decide) ?_
            exact W.iret (v := (r_5 / x7_8)) hx hb hr (fun t ht hW => ⟨_, rfl, hw, ht⟩) (fun q h => absurd h List.not_mem_nil) dX1_mean_84
        · replace hw := hw.2 hc
          clear hc
          refine lv_ldc (v := (-1000000 : Int32)) hx hb hown k44 dX1_mean_34 ?_
          exact W.iret (v := (-1000000 : Int32)) hx hb hr (fun t ht hW => ⟨_, rfl, hw, ht⟩) (fun q h => absurd h List.not_mem_nil) dX1_mean_36
-- X1_even
set_option maxHeartbeats 4000000 in
set_option maxRecDepth 100000 in
theorem cM_even (l : Launch) (dC : Nat → ClassId) (dI : Nat → Nat → Nat) (h : Nat) (ad : Nat → Nat) (ca : Nat → ClassId) (tc cl : Int32) (tr : Int64) (g : Sg) (x1 : Int32) (x2 : Int32) (P : Int32 → Prop) (hw : wM_even P tc cl tr g x1 x2) : Met l yX1_even wsX1_even ({ frames := 5, cells := 0, slots := 0, locals := 122 }) (va_Pc [.ref h, .int x1, .int x2] (fun U => va_P (dC, dI) vwCl (ML h ad ca tc cl tr g) U.heap ∧ va_K (dC, dI) vwCl (MT ca) U)) (vp_Si P) 0 0 (fun _ => False) := by
  refine Met.ofW (cc := cX1_even) (maxL := 7) (ret := (some .int)) (by decide) rfl ?_
  intro p e s m args below meth c s₁ B0 hml hv
  obtain ⟨hargs, hP, hK⟩ := hv
  have hx := B0.exec
  have hb := B0.bytes
  have hr := B0.returns
  have hts := atoms_spec (ws := wsX1_even) B0.pre
  have hown : s.vm.findClass RX1 = some m.cls := findClass_of_methodNamed B0.named
  have hlocks := B0.notSynchronized
  have inw : ∀ w ∈ wsX10, w ∈ wsX1_even := fun w h => List.mem_cons_of_mem _ (List.mem_append_right _ h)
  have f7 : (Cond.fieldLink RX1 7 "FlipHeapsModel" "things" "I").before args s = true := hts _ (by decide +kernel)
  have jn_92 : ∀ (B : Int32 → Int32 → Prop) (K101 : Int32 → Prop) (x1 : Int32) (x2 : Int32) (x3 : Int32) (x4 : Int32) (x6 : Int32) (hB : ∀ (x5 : Int32) (x6 : Int32) (ls : Array Slot), B x5 x6 → lv_has ls 7 [(0, .ref h), (1, .int x1), (2, .int x2), (3, .int x3), (4, .int x4), (5, .int x5), (6, .int x6)] → W p l e (headSpec wsX1_even ({ frames := 5, cells := 0, slots := 0, locals := 122 })).room s m args below meth c s.heap [] 0 0 (MQ below (vp_Si P) args s 0 0 (fun _ => False)) (F0 m 40 ls [])) (hK101 : ∀ (x5 : Int32) (ls : Array Slot), K101 x5 → lv_has ls 7 [(0, .ref h), (5, .int x5)] → W p l e (headSpec wsX1_even ({ frames := 5, cells := 0, slots := 0, locals := 122 })).room s m args below meth c s.heap [] 0 0 (MQ below (vp_Si P) args s 0 0 (fun _ => False)) (F0 m 101 ls [])) (ls : Array Slot), wM_even_j92 P tc cl tr g B K101 x1 x2 x3 x4 x6 → lv_has ls 7 [(0, .ref h), (1, .int x1), (2, .int x2), (3, .int x3), (4, .int x4), (6, .int x6)] → W p l e (headSpec wsX1_even ({ frames := 5, cells := 0, slots := 0, locals := 122 })).room s m args below meth c s.heap [] 0 0 (MQ below (vp_Si P) args s 0 0 (fun _ => False)) (F0 m 92 ls []) := by
    intro B K101 x1 x2 x3 x4 x6 hB hK101 ls hw hl
    unfold wM_even_j92 at hw
    refine lv_iconst (v := (0 : Int32)) hx hb dX1_even_92 (by decide) ?_
    refine lv_istore (lv' := [(5, .int (0 : Int32)), (0, .ref h), (1, .int x1), (2, .int x2), (3, .int x3), (4, .int x4), (6, .int x6)]) hx hb dX1_even_93 hl (by decide) rfl (fun ls hl => ?_)
    refine lv_iinc (v := (x6 + 1)) (lv' := [(6, .int ((x6 + 1))), (5, .int (0 : Int32)), (0, .ref h), (1, .int x1), (2, .int x2), (3, .int x3), (4, .int x4)]) hx hb dX1_even_95 hl (k := 6) rfl rfl (by decide) rfl (fun ls hl => ?_)
    refine lv_goto (tgt := 40) hx hb dX1_even_98 (by decide) ?_
    exact hB (0 : Int32) (x6 + 1) ls hw (lv_sub hl [2, 3, 4, 5, 6, 1, 0] rfl)
  have jn_88 : ∀ (B : Int32 → Int32 → Prop) (K101 : Int32 → Prop) (x1 : Int32) (x2 : Int32) (x3 : Int32) (x4 : Int32) (x6 : Int32) (hB : ∀ (x5 : Int32) (x6 : Int32) (ls : Array Slot), B x5 x6 → lv_has ls 7 [(0, .ref h), (1, .int x1), (2, .int x2), (3, .int x3), (4, .int x4), (5, .int x5), (6, .int x6)] → W p l e (headSpec wsX1_even ({ frames := 5, cells := 0, slots := 0, locals := 122 })).room s m args below meth c s.heap [] 0 0 (MQ below (vp_Si P) args s 0 0 (fun _ => False)) (F0 m 40 ls [])) (hK101 : ∀ (x5 : Int32) (ls : Array Slot), K101 x5 → lv_has ls 7 [(0, .ref h), (5, .int x5)] → W p l e (headSpec wsX1_even ({ frames := 5, cells := 0, slots := 0, locals := 122 })).room s m args below meth c s.heap [] 0 0 (MQ below (vp_Si P) args s 0 0 (fun _ => False)) (F0 m 101 ls [])) (ls : Array Slot), wM_even_j88 P tc cl tr g B K101 x1 x2 x3 x4 x6 → lv_has ls 7 [(0, .ref h), (1, .int x1), (2, .int x2), (3, .int x3), (4, .int x4), (6, .int x6)] → W p l e (headSpec wsX1_even ({ frames := 5, cells := 0, slots := 0, locals := 122 })).room s m args below meth c s.heap [] 0 0 (MQ below (vp_Si P) args s 0 0 (fun _ => False)) (F0 m 88 ls []) := by
    intro B K101 x1 x2 x3 x4 x6 hB hK101 ls hw hl
    unfold wM_even_j88 at hw
    refine lv_iconst (v := (1 : Int32)) hx hb dX1_even_88 (by decide) ?_
    refine lv_goto (tgt := 93) hx hb dX1_even_89 (by decide) ?_
    refine lv_istore (lv' := [(5, .int (1 : Int32)), (0, .ref h), (1, .int x1), (2, .int x2), (3, .int x3), (4, .int x4), (6, .int x6)]) hx hb dX1_even_93 hl (by decide) rfl (fun ls hl => ?_)
    refine lv_iinc (v := (x6 + 1)) (lv' := [(6, .int ((x6 + 1))), (5, .int (1 : Int32)), (0, .ref h), (1, .int x1), (2, .int x2), (3, .int x3), (4, .int x4)]) hx hb dX1_even_95 hl (k := 6) rfl rfl (by decide) rfl (fun ls hl => ?_)
    refine lv_goto (tgt := 40) hx hb dX1_even_98 (by decide) ?_
    exact hB (1 : Int32) (x6 + 1) ls hw (lv_sub hl [2, 3, 4, 5, 6, 1, 0] rfl)
  have lp_40 : ∀ (x1 : Int32) (x2 : Int32) (x3 : Int32) (x4 : Int32) (K101 : Int32 → Prop) (hK101 : ∀ (x5 : Int32) (ls : Array Slot), K101 x5 → lv_has ls 7 [(0, .ref h), (5, .int x5)] → W p l e (headSpec wsX1_even ({ frames := 5, cells := 0, slots := 0, locals := 122 })).room s m args below meth c s.heap [] 0 0 (MQ below (vp_Si P) args s 0 0 (fun _ => False)) (F0 m 101 ls [])), ∀ (n : Nat) (x5 : Int32) (x6 : Int32) (ls : Array Slot), Lp2 (wM_even_b40 P tc cl tr g x1 x2 x3 x4 K101) n x5 x6 → lv_has ls 7 [(0, .ref h), (1, .int x1), (2, .int x2), (3, .int x3), (4, .int x4), (5, .int x5), (6, .int x6)] → W p l e (headSpec wsX1_even ({ frames := 5, cells := 0, slots := 0, locals := 122 })).room s m args below meth c s.heap [] 0 0 (MQ below (vp_Si P) args s 0 0 (fun _ => False)) (F0 m 40 ls []) := by
    intro x1 x2 x3 x4 K101 hK101
    intro n
    induction n with
    | zero => intro x5 x6 ls hw; exact False.elim hw
    | succ n hB =>
      intro x5 x6 ls hw hl
      replace hw : wM_even_b40 P tc cl tr g x1 x2 x3 x4 K101 (Lp2 (wM_even_b40 P tc cl tr g x1 x2 x3 x4 K101) n) x5 x6 := hw
      unfold wM_even_b40 at hw
      refine lv_iload hx hb dX1_even_40 (lv_at hl 6 rfl) ?_
      refine lv_iconst (v := (1 : Int32)) hx hb dX1_even_42 (by decide) ?_
      refine lv_aload_n hx hb dX1_even_43 rfl (lv_at hl 0 rfl) ?_
      refine va_get (D := (dC, dI)) (ci := 1) (C := RX1) (T := TX1) (N := 9) hx hb hts inw hown hK hP 0 rfl rfl 0 (by decide) f7 (fun _ h9 => h9) rfl dX1_even_44 ?_
      refine lv_ishl hx hb dX1_even_47 ?_
      refine lv_icmp_ge (tgt := 101) hx hb dX1_even_48 (by decide) (fun hc => ?_) (fun hc => ?_)
      · replace hw := hw.1 hc
        clear hc
        exact hK101 x5 ls hw (lv_sub hl [0, 5] rfl)
      · replace hw := hw.2 hc
        clear hc
        refine lv_iload hx hb dX1_even_51 (lv_at hl 5 rfl) ?_
        refine lv_if_eq (tgt := 92) hx hb dX1_even_53 (by decide) (fun hc => ?_) (fun hc => ?_)
        · replace hw := hw.1 hc
          clear hc
          exact jn_92 _ _ x1 x2 x3 x4 x6 hB hK101 ls hw (lv_sub hl [0, 1, 2, 3, 4, 6] rfl)
        · replace hw := hw.2 hc
          clear hc
          refine lv_aload_n hx hb dX1_even_56 rfl (lv_at hl 0 rfl) ?_
          refine lv_iload hx hb dX1_even_57 (lv_at hl 6 rfl) ?_
          refine vp_callSi (W.runV (As := [.int x6]) (rest := []) ⟨hx, hb, hml, hown, hts⟩ (cM_isHeap l dC dI h ad ca tc cl tr g x6 _ hw) (cwV 1 hts gX1_even_X1_isHeap rfl rfl rfl (by decide +kernel) ⟨Nat.le_of_ble_eq_true rfl, Nat.le_of_ble_eq_true rfl⟩) ⟨fun a U g mk q => by obtain ⟨q0, qP, qK⟩ := q; exact ⟨q0, qP, va_K.moved (u := U) (U := U.calling g mk a) (Vm.Alike.refl U.vm) qK⟩, va_recv hK hP (ci := 1) (q0 := 0) rfl rfl, fun U hU hW => ⟨rfl, by rw [hU]; exact hP, va_K.moved hW.alike hK⟩⟩ rfl rfl hl.1 rfl (lv_room (Nat.le_of_ble_eq_true rfl)) dX1_even_59 ⟨Nat.zero_le _, Nat.zero_le _⟩) (fun r_1 hw => ?_)
          try dsimp only at hw
          refine lv_if_eq (tgt := 88) hx hb dX1_even_62 (by decide) (fun hc => ?_) (fun hc => ?_)
          · replace hw := hw.1 hc
            clear hc
            exact jn_88 _ _ x1 x2 x3 x4 x6 hB hK101 ls hw (lv_sub hl [0, 1, 2, 3, 4, 6] rfl)
          · replace hw := hw.2 hc
            clear hc
            refine lv_aload_n hx hb dX1_even_65 rfl (lv_at hl 0 rfl) ?_
            refine lv_iload hx hb dX1_even_66 (lv_at hl 6 rfl) ?_
            refine lv_iload_n hx hb dX1_even_68 rfl (lv_at hl 1 rfl) ?_
            refine lv_iload_n hx hb dX1_even_69 rfl (lv_at hl 2 rfl) ?_
            refine vp_callSi (W.runV (As := [.int x6, .int x1, .int x2]) (rest := []) ⟨hx, hb, hml, hown, hts⟩ (cM_sumOf l dC dI h ad ca tc cl tr g x6 x1 x2 _ hw) (cwV 3 hts gX1_even_X1_sumOf rfl rfl rfl (by decide +kernel) ⟨Nat.le_of_ble_eq_true rfl, Nat.le_of_ble_eq_true rfl⟩) ⟨fun a U g mk q => by obtain ⟨q0, qP, qK⟩ := q; exact ⟨q0, qP, va_K.moved (u := U) (U := U.calling g mk a) (Vm.Alike.refl U.vm) qK⟩, va_recv hK hP (ci := 1) (q0 := 0) rfl rfl, fun U hU hW => ⟨rfl, by rw [hU]; exact hP, va_K.moved hW.alike hK⟩⟩ rfl rfl hl.1 rfl (lv_room (Nat.le_of_ble_eq_true rfl)) dX1_even_70 ⟨Nat.zero_le _, Nat.zero_le _⟩) (fun r_2 hw => ?_)
            try dsimp only at hw
            refine lv_iload hx hb dX1_even_73 (lv_at hl 4 rfl) ?_
            refine lv_imul hx hb dX1_even_75 ?_
            refine lv_iload_n hx hb dX1_even_76 rfl (lv_at hl 3 rfl) ?_
            refine lv_aload_n hx hb dX1_even_77 rfl (lv_at hl 0 rfl) ?_
            refine lv_iload hx hb dX1_even_78 (lv_at hl 6 rfl) ?_
            refine lv_iload_n hx hb dX1_even_80 rfl (lv_at hl 1 rfl) ?_
            refine vp_callSi (W.runV (As := [.int x6, .int x1]) (rest := [.int x3, .int ((r_2 * x4))]) ⟨hx, hb, hml, hown, hts⟩ (cM_orbitOf l dC dI h ad ca tc cl tr g x6 x1 _ hw) (cwV 2 hts gX1_even_X1_orbitOf rfl rfl rfl (by decide +kernel) ⟨Nat.le_of_ble_eq_true rfl, Nat.le_of_ble_eq_true rfl⟩) ⟨fun a U g mk q => by obtain ⟨q0, qP, qK⟩ := q; exact ⟨q0, qP, va_K.moved (u := U) (U := U.calling g mk a) (Vm.Alike.refl U.vm) qK⟩, va_recv hK hP (ci := 1) (q0 := 0) rfl rfl, fun U hU hW => ⟨rfl, by rw [hU]; exact hP, va_K.moved hW.alike hK⟩⟩ rfl rfl hl.1 rfl (lv_room (Nat.le_of_ble_eq_true rfl)) dX1_even_81 ⟨Nat.zero_le _, Nat.zero_le _⟩) (fun r_3 hw => ?_)
            try dsimp only at hw
            refine lv_imul hx hb dX1_even_84 ?_
            refine lv_icmp_ne (tgt := 92) hx hb dX1_even_85 (by decide) (fun hc => ?_) (fun hc => ?_)
            · replace hw := hw.1 hc
              clear hc
              exact jn_92 _ _ x1 x2 x3 x4 x6 hB hK101 ls hw (lv_sub hl [0, 1, 2, 3, 4, 6] rfl)
            · replace hw := hw.2 hc
              clear hc
              exact jn_88 _ _ x1 x2 x3 x4 x6 hB hK101 ls hw (lv_sub hl [0, 1, 2, 3, 4, 6] rfl)
  subst hargs
  unfold wM_even at hw
  have hl := lv_entry ([.ref h, .int x1, .int x2]) (n := 7) (Nat.le_of_ble_eq_true rfl)
  rw [lg_entry_eq]
  generalize (lg_sl ([.ref h, .int x1, .int x2]) ++ List.replicate (7 - (lg_sl ([.ref h, .int x1, .int x2])).length) Slot.unset).toArray = ls at hl ⊢
  have hl : lv_has ls 7 [(0, .ref h), (1, .int x1), (2, .int x2)] := hl
  refine lv_iload_n hx hb dX1_even_0 rfl (lv_at hl 1 rfl) ?_
  refine vp_callSi (W.runS (As := [.int x1]) (rest := []) ⟨hx, hb, hml, hown, hts⟩ (cM_isKind l x1 _ hw) (va_cwS 1 hts gX1_even_X1_isKind rfl rfl rfl (by decide +kernel) ⟨Nat.le_of_ble_eq_true rfl, Nat.le_of_ble_eq_true rfl⟩) ⟨fun a U g mk q => q, fun U hU hW => ⟨rfl, trivial⟩⟩ rfl rfl hl.1 rfl (lv_room (Nat.le_of_ble_eq_true rfl)) dX1_even_1 ⟨Nat.zero_le _, Nat.zero_le _⟩) (fun r_4 hw => ?_)
  try dsimp only at hw
  refine lv_if_eq (tgt := 16) hx hb dX1_even_4 (by decide) (fun hc => ?_) (fun hc => ?_)
  · replace hw := hw.1 hc
    clear hc
    refine lv_iconst (v := (-1 : Int32)) hx hb dX1_even_16 (by decide) ?_
    exact W.iret (v := (-1 : Int32)) hx hb hr (fun t ht hW => ⟨_, rfl, hw, ht⟩) (fun q h => absurd h List.not_mem_nil) dX1_even_17
  · replace hw := hw.2 hc
    clear hc
    refine lv_iload_n hx hb dX1_even_7 rfl (lv_at hl 2 rfl) ?_
    refine lv_iconst (v := (0 : Int32)) hx hb dX1_even_8 (by decide) ?_
    refine lv_iconst (v := (2 : Int32)) hx hb dX1_even_9 (by decide) ?_
    refine vp_callSi (W.runS (As := [.int x2, .int (0 : Int32), .int (2 : Int32)]) (rest := []) ⟨hx, hb, hml, hown, hts⟩ (cM_in l x2 (0 : Int32) (2 : Int32) _ hw) (va_cwS 3 hts gX1_even_X1_in rfl rfl rfl (by decide +kernel) ⟨Nat.le_of_ble_eq_true rfl, Nat.le_of_ble_eq_true rfl⟩) ⟨fun a U g mk q => q, fun U hU hW => ⟨rfl, trivial⟩⟩ rfl rfl hl.1 rfl (lv_room (Nat.le_of_ble_eq_true rfl)) dX1_even_10 ⟨Nat.zero_le _, Nat.zero_le _⟩) (fun r_5 hw => ?_)
    try dsimp only at hw
    refine lv_if_ne (tgt := 18) hx hb dX1_even_13 (by decide) (fun hc => ?_) (fun hc => ?_)
    · replace hw := hw.1 hc
      clear hc
      refine lv_aload_n hx hb dX1_even_18 rfl (lv_at hl 0 rfl) ?_
      refine lv_iconst (v := (0 : Int32)) hx hb dX1_even_19 (by decide) ?_
      refine lv_iload_n hx hb dX1_even_20 rfl (lv_at hl 1 rfl) ?_
      refine lv_iload_n hx hb dX1_even_21 rfl (lv_at hl 2 rfl) ?_
      refine vp_callSi (W.runV (As := [.int (0 : Int32), .int x1, .int x2]) (rest := []) ⟨hx, hb, hml, hown, hts⟩ (cM_sumOf l dC dI h ad ca tc cl tr g (0 : Int32) x1 x2 _ hw) (cwV 3 hts gX1_even_X1_sumOf rfl rfl rfl (by decide +kernel) ⟨Nat.le_of_ble_eq_true rfl, Nat.le_of_ble_eq_true rfl⟩) ⟨fun a U g mk q => by obtain ⟨q0, qP, qK⟩ := q; exact ⟨q0, qP, va_K.moved (u := U) (U := U.calling g mk a) (Vm.Alike.refl U.vm) qK⟩, va_recv hK hP (ci := 1) (q0 := 0) rfl rfl, fun U hU hW => ⟨rfl, by rw [hU]; exact hP, va_K.moved hW.alike hK⟩⟩ rfl rfl hl.1 rfl (lv_room (Nat.le_of_ble_eq_true rfl)) dX1_even_22 ⟨Nat.zero_le _, Nat.zero_le _⟩) (fun r_6 hw => ?_)
      try dsimp only at hw
      refine lv_istore_n (lv' := [(3, .int r_6), (0, .ref h), (1, .int x1), (2, .int x2)]) hx hb dX1_even_25 rfl hl (by decide) rfl (fun ls hl => ?_)
      refine lv_aload_n hx hb dX1_even_26 rfl (lv_at hl 1 rfl) ?_
      refine lv_iconst (v := (0 : Int32)) hx hb dX1_even_27 (by decide) ?_
      refine lv_iload_n hx hb dX1_even_28 rfl (lv_at hl 2 rfl) ?_
      refine vp_callSi (W.runV (As := [.int (0 : Int32), .int x1]) (rest := []) ⟨hx, hb, hml, hown, hts⟩ (cM_orbitOf l dC dI h ad ca tc cl tr g (0 : Int32) x1 _ hw) (cwV 2 hts gX1_even_X1_orbitOf rfl rfl rfl (by decide +kernel) ⟨Nat.le_of_ble_eq_true rfl, Nat.le_of_ble_eq_true rfl⟩) ⟨fun a U g mk q => by obtain ⟨q0, qP, qK⟩ := q; exact ⟨q0, qP, va_K.moved (u := U) (U := U.calling g mk a) (Vm.Alike.refl U.vm) qK⟩, va_recv hK hP (ci := 1) (q0 := 0) rfl rfl, fun U hU hW => ⟨rfl, by rw [hU]; exact hP, va_K.moved hW.alike hK⟩⟩ rfl rfl hl.1 rfl (lv_room (Nat.le_of_ble_eq_true rfl)) dX1_even_29 ⟨Nat.zero_le _, Nat.zero_le _⟩) (fun r_7 hw => ?_)
      try dsimp only at hw
      refine lv_istore (lv' := [(4, .int r_7), (3, .int r_6), (0, .ref h), (1, .int x1), (2, .int x2)]) hx hb dX1_even_32 hl (by decide) rfl (fun ls hl => ?_)
      refine lv_iconst (v := (1 : Int32)) hx hb dX1_even_34 (by decide) ?_
      refine lv_istore (lv' := [(5, .int (1 : Int32)), (4, .int r_7), (3, .int r_6), (0, .ref h), (1, .int x1), (2, .int x2)]) hx hb dX1_even_35 hl (by decide) rfl (fun ls hl => ?_)
      refine lv_iconst (v := (1 : Int32)) hx hb dX1_even_37 (by decide) ?_
      refine lv_istore (lv' := [(6, .int (1 : Int32)), (5, .int (1 : Int32)), (4, .int r_7), (3, .int r_6), (0, .ref h), (1, .int x1), (2, .int x2)]) hx hb dX1_even_38 hl (by decide) rfl (fun ls hl => ?_)
      obtain ⟨n_9, hw⟩ := hw
      refine lp_40 x1 x2 r_6 r_7 _ ?_ n_9 (1 : Int32) (1 : Int32) ls hw (lv_sub hl [4, 5, 6, 3, 2, 1, 0] rfl)
      · intro x5_8 ls hw hl
        try dsimp only at hw
        refine lv_iload hx hb dX1_even_101 (lv_at hl 1 rfl) ?_
        refine lv_if_eq (tgt := 110) hx hb dX1_even_103 (by decide) (fun hc => ?_) (fun hc => ?_)
        · replace hw := hw.1 hc
          clear hc
          refine lv_iconst (v := (0 : Int32)) hx hb dX1_even_110 (by decide) ?_
          exact W.iret (v := (0 : Int32)) hx hb hr (fun t ht hW => ⟨_, rfl, hw, ht⟩) (fun q h => absurd h List.not_mem_nil) dX1_even_111
        · replace hw := hw.2 hc
          clear hc
          refine lv_iconst (v := (1 : Int32)) hx hb dX1_even_106 (by decide) ?_
          refine lv_goto (tgt := 111) hx hb dX1_even_107 (by decide) ?_
          exact W.iret (v := (1 : Int32)) hx hb hr (fun t ht hW => ⟨_, rfl, hw, ht⟩) (fun q h => absurd h List.not_mem_nil) dX1_even_111
    · replace hw := hw.2 hc
      clear hc
      refine lv_iconst (v := (-1 : Int32)) hx hb dX1_even_16 (by decide) ?_
      exact W.iret (v := (-1 : Int32)) hx hb hr (fun t ht hW => ⟨_, rfl, hw, ht⟩) (fun q h => absurd h List.not_mem_nil) dX1_even_17
-- X1_take
set_option maxHeartbeats 4000000 in
set_option maxRecDepth 100000 in
theorem cM_take (l : Launch) (dC : Nat → ClassId) (dI : Nat → Nat → Nat) (h : Nat) (ad : Nat → Nat) (ca : Nat → ClassId) (sz : Nat) (tc cl : Int32) (tr : Int64) (g : Sg) (x1 : Int32) (x2 : Int32) (P : Int32 → Sg → Prop) (hw : wM_take P tc cl tr g x1 x2) : Met l yX1_take wsX1_take ({ frames := 0, cells := 0, slots := 0, locals := 0 }) (va_Pc [.ref h, .int x1, .int x2] (fun U => U.heap.size = sz ∧ va_P (dC, dI) vwCl (ML h ad ca tc cl tr g) U.heap ∧ va_K (dC, dI) vwCl (MT ca) U ∧ va_D (fun _ => True) (ML h ad ca tc cl tr g))) (va_Qi (fun (r : Int32) (u : Sg) => P r u) (at_M1 dC dI (va_A (ML h ad ca tc cl tr g) sz) h ad ca tc cl tr) (va_A (ML h ad ca tc cl tr g) sz)) 0 0 (va_A (ML h ad ca tc cl tr g) sz) := by
  refine Met.ofW (cc := cX1_take) (maxL := 7) (ret := (some .boolean)) (by decide) rfl ?_
  intro p e s m args below meth c s₁ B0 hml hv
  obtain ⟨hargs, hsz, hP, hK, hD0⟩ := hv
  have hx := B0.exec
  have hb := B0.bytes
  have hr := B0.returns
  have hts := atoms_spec (ws := wsX1_take) B0.pre
  have hown : s.vm.findClass RX1 = some m.cls := findClass_of_methodNamed B0.named
  have hlocks := B0.notSynchronized
  have inw : ∀ w ∈ wsX10, w ∈ wsX1_take := fun w h => List.mem_cons_of_mem _ (List.mem_append_right _ h)
  have f7 : (Cond.fieldLink RX1 7 "FlipHeapsModel" "things" "I").before args s = true := hts _ (by decide +kernel)
  have f13 : (Cond.fieldLink RX1 13 "FlipHeapsModel" "isBelow" "[Z").before args s = true := hts _ (by decide +kernel)
  have f27 : (Cond.fieldLink RX1 27 "FlipHeapsModel" "digit" "[I").before args s = true := hts _ (by decide +kernel)
  subst hsz
  have hD := hD0.self (sz := s.heap.size)
  generalize hAe : va_A (ML h ad ca tc cl tr g) s.heap.size = A at hD ⊢
  have hA : ∀ q : Nat, s.heap.size ≤ q → A q := fun q h => by rw [← hAe]; exact Or.inr h
  clear hAe hD0
  have hS : va_S A s.heap s.heap [] := va_S.rf
  have lp_5 : ∀ (x1 : Int32) (x2 : Int32) (K38 : Int32 → Sg → Prop) (hK38 : ∀ (x3 : Int32) (g : Sg) (H : Heap) (locs : List Loc) (ls : Array Slot), K38 x3 g → va_P (dC, dI) vwCl (ML h ad ca tc cl tr g) H → va_D A (ML h ad ca tc cl tr g) → va_S A s.heap H locs → lv_has ls 7 [(0, .ref h), (2, .int x2), (3, .int x3)] → W p l e (headSpec wsX1_take ({ frames := 0, cells := 0, slots := 0, locals := 0 })).room s m args below meth c H locs 0 0 (MQ below (va_Qi (fun (r : Int32) (u : Sg) => P r u) (at_M1 dC dI A h ad ca tc cl tr) A) args s 0 0 A) (F0 m 38 ls [])), ∀ (n : Nat) (x3 : Int32) (x4 : Int32) (g : Sg) (H : Heap) (locs : List Loc) (ls : Array Slot), Lp3 (wM_take_b5 P tc cl tr x1 x2 K38) n x3 x4 g → va_P (dC, dI) vwCl (ML h ad ca tc cl tr g) H → va_D A (ML h ad ca tc cl tr g) → va_S A s.heap H locs → lv_has ls 7 [(0, .ref h), (1, .int x1), (2, .int x2), (3, .int x3), (4, .int x4)] → W p l e (headSpec wsX1_take ({ frames := 0, cells := 0, slots := 0, locals := 0 })).room s m args below meth c H locs 0 0 (MQ below (va_Qi (fun (r : Int32) (u : Sg) => P r u) (at_M1 dC dI A h ad ca tc cl tr) A) args s 0 0 A) (F0 m 5 ls []) := by
    intro x1 x2 K38 hK38
    intro n
    induction n with
    | zero => intro x3 x4 g H locs ls hw; exact False.elim hw
    | succ n hB =>
      intro x3 x4 g H locs ls hw hP hD hS hl
      replace hw : wM_take_b5 P tc cl tr x1 x2 K38 (Lp3 (wM_take_b5 P tc cl tr x1 x2 K38) n) x3 x4 g := hw
      unfold wM_take_b5 at hw
      refine lv_iload hx hb dX1_take_5 (lv_at hl 4 rfl) ?_
      refine lv_aload_n hx hb dX1_take_7 rfl (lv_at hl 0 rfl) ?_
      refine va_get (D := (dC, dI)) (ci := 1) (C := RX1) (T := TX1) (N := 9) hx hb hts inw hown hK hP 0 rfl rfl 0 (by decide) f7 (fun _ h9 => h9) rfl dX1_take_8 ?_
      refine lv_icmp_ge (tgt := 38) hx hb dX1_take_11 (by decide) (fun hc => ?_) (fun hc => ?_)
      · replace hw := hw.1 hc
        clear hc
        exact hK38 x3 g H locs ls hw hP hD hS (lv_sub hl [0, 2, 3] rfl)
      · replace hw := hw.2 hc
        clear hc
        refine lv_aload_n hx hb dX1_take_14 rfl (lv_at hl 0 rfl) ?_
        refine va_get (D := (dC, dI)) (ci := 1) (C := RX1) (T := TX1) (N := 9) hx hb hts inw hown hK hP 0 rfl rfl 7 (by decide) f27 (fun _ h9 => h9) rfl dX1_take_15 ?_
        refine lv_iload hx hb dX1_take_18 (lv_at hl 4 rfl) ?_
        refine lv_iload_n hx hb dX1_take_20 rfl (lv_at hl 3 rfl) ?_
        refine lv_iload_n hx hb dX1_take_21 rfl (lv_at hl 1 rfl) ?_
        refine lv_iconst (v := (1 : Int32)) hx hb dX1_take_22 (by decide) ?_
        refine lv_iadd hx hb dX1_take_23 ?_
        obtain ⟨hne, hw⟩ := hw
        refine lv_irem hx hb dX1_take_24 hne ?_
        obtain ⟨hin, hw⟩ := hw
        refine va_iast hx hb hK hP hD hS 5 4 rfl rfl hin dX1_take_25 (fun H locs hP hD hS => ?_)
        obtain ⟨g_1, hg⟩ : ∃ z : Sg, z = up2 g 7 (x4).toNatClampNeg (x3 - x3 / (x1 + (1 : Int32)) * (x1 + (1 : Int32))) := ⟨_, rfl⟩
        replace hw := hw g_1 hg
        have hP : va_P (dC, dI) vwCl (ML h ad ca tc cl tr g_1) H := by rw [hg]; exact hP
        have hD : va_D A (ML h ad ca tc cl tr g_1) := by rw [hg]; exact hD
        clear hg
        refine lv_iload_n hx hb dX1_take_26 rfl (lv_at hl 3 rfl) ?_
        refine lv_iload_n hx hb dX1_take_27 rfl (lv_at hl 1 rfl) ?_
        refine lv_iconst (v := (1 : Int32)) hx hb dX1_take_28 (by decide) ?_
        refine lv_iadd hx hb dX1_take_29 ?_
        obtain ⟨hne, hw⟩ := hw
        refine lv_idiv hx hb dX1_take_30 hne ?_
        refine lv_topi (fun x3_2 hv => ?_)
        replace hw := hw x3_2 hv
        clear hv
        refine lv_istore_n (lv' := [(3, .int x3_2), (0, .ref h), (1, .int x1), (2, .int x2), (4, .int x4)]) hx hb dX1_take_31 rfl hl (by decide) rfl (fun ls hl => ?_)
        refine lv_iinc (v := (x4 + 1)) (lv' := [(4, .int ((x4 + 1))), (3, .int x3_2), (0, .ref h), (1, .int x1), (2, .int x2)]) hx hb dX1_take_32 hl (k := 4) rfl rfl (by decide) rfl (fun ls hl => ?_)
        refine lv_goto (tgt := 5) hx hb dX1_take_35 (by decide) ?_
        exact hB x3_2 (x4 + 1) g_1 H locs ls hw hP hD hS (lv_sub hl [2, 3, 4, 1, 0] rfl)
  have jn_122 : ∀ (B : Int32 → Int32 → Sg → Prop) (K131 : Int32 → Sg → Prop) (x5 : Int32) (x6 : Int32) (g : Sg) (hB : ∀ (x4 : Int32) (x6 : Int32) (g : Sg) (H : Heap) (locs : List Loc) (ls : Array Slot), B x4 x6 g → va_P (dC, dI) vwCl (ML h ad ca tc cl tr g) H → va_D A (ML h ad ca tc cl tr g) → va_S A s.heap H locs → lv_has ls 7 [(0, .ref h), (4, .int x4), (5, .int x5), (6, .int x6)] → W p l e (headSpec wsX1_take ({ frames := 0, cells := 0, slots := 0, locals := 0 })).room s m args below meth c H locs 0 0 (MQ below (va_Qi (fun (r : Int32) (u : Sg) => P r u) (at_M1 dC dI A h ad ca tc cl tr) A) args s 0 0 A) (F0 m 71 ls [])) (hK131 : ∀ (x4 : Int32) (g : Sg) (H : Heap) (locs : List Loc) (ls : Array Slot), K131 x4 g → va_P (dC, dI) vwCl (ML h ad ca tc cl tr g) H → va_D A (ML h ad ca tc cl tr g) → va_S A s.heap H locs → lv_has ls 7 [(0, .ref h), (4, .int x4), (5, .int x5)] → W p l e (headSpec wsX1_take ({ frames := 0, cells := 0, slots := 0, locals := 0 })).room s m args below meth c H locs 0 0 (MQ below (va_Qi (fun (r : Int32) (u : Sg) => P r u) (at_M1 dC dI A h ad ca tc cl tr) A) args s 0 0 A) (F0 m 131 ls [])) (H : Heap) (locs : List Loc) (ls : Array Slot), wM_take_j122 P tc cl tr B K131 x5 x6 g → va_P (dC, dI) vwCl (ML h ad ca tc cl tr g) H → va_D A (ML h ad ca tc cl tr g) → va_S A s.heap H locs → lv_has ls 7 [(0, .ref h), (5, .int x5), (6, .int x6)] → W p l e (headSpec wsX1_take ({ frames := 0, cells := 0, slots := 0, locals := 0 })).room s m args below meth c H locs 0 0 (MQ below (va_Qi (fun (r : Int32) (u : Sg) => P r u) (at_M1 dC dI A h ad ca tc cl tr) A) args s 0 0 A) (F0 m 122 ls []) := by
    intro B K131 x5 x6 g hB hK131 H locs ls hw hP hD hS hl
    unfold wM_take_j122 at hw
    refine lv_iconst (v := (0 : Int32)) hx hb dX1_take_122 (by decide) ?_
    refine lv_istore (lv' := [(4, .int (0 : Int32)), (0, .ref h), (5, .int x5), (6, .int x6)]) hx hb dX1_take_123 hl (by decide) rfl (fun ls hl => ?_)
    refine lv_iinc (v := (x6 + 1)) (lv' := [(6, .int ((x6 + 1))), (4, .int (0 : Int32)), (0, .ref h), (5, .int x5)]) hx hb dX1_take_125 hl (k := 3) rfl rfl (by decide) rfl (fun ls hl => ?_)
    refine lv_goto (tgt := 71) hx hb dX1_take_128 (by decide) ?_
    exact hB (0 : Int32) (x6 + 1) g H locs ls hw hP hD hS (lv_sub hl [2, 1, 3, 0] rfl)
  have jn_118 : ∀ (B : Int32 → Int32 → Sg → Prop) (K131 : Int32 → Sg → Prop) (x5 : Int32) (x6 : Int32) (g : Sg) (hB : ∀ (x4 : Int32) (x6 : Int32) (g : Sg) (H : Heap) (locs : List Loc) (ls : Array Slot), B x4 x6 g → va_P (dC, dI) vwCl (ML h ad ca tc cl tr g) H → va_D A (ML h ad ca tc cl tr g) → va_S A s.heap H locs → lv_has ls 7 [(0, .ref h), (4, .int x4), (5, .int x5), (6, .int x6)] → W p l e (headSpec wsX1_take ({ frames := 0, cells := 0, slots := 0, locals := 0 })).room s m args below meth c H locs 0 0 (MQ below (va_Qi (fun (r : Int32) (u : Sg) => P r u) (at_M1 dC dI A h ad ca tc cl tr) A) args s 0 0 A) (F0 m 71 ls [])) (hK131 : ∀ (x4 : Int32) (g : Sg) (H : Heap) (locs : List Loc) (ls : Array Slot), K131 x4 g → va_P (dC, dI) vwCl (ML h ad ca tc cl tr g) H → va_D A (ML h ad ca tc cl tr g) → va_S A s.heap H locs → lv_has ls 7 [(0, .ref h), (4, .int x4), (5, .int x5)] → W p l e (headSpec wsX1_take ({ frames := 0, cells := 0, slots := 0, locals := 0 })).room s m args below meth c H locs 0 0 (MQ below (va_Qi (fun (r : Int32) (u : Sg) => P r u) (at_M1 dC dI A h ad ca tc cl tr) A) args s 0 0 A) (F0 m 131 ls [])) (H : Heap) (locs : List Loc) (ls : Array Slot), wM_take_j118 P tc cl tr B K131 x5 x6 g → va_P (dC, dI) vwCl (ML h ad ca tc cl tr g) H → va_D A (ML h ad ca tc cl tr g) → va_S A s.heap H locs → lv_has ls 7 [(0, .ref h), (5, .int x5), (6, .int x6)] → W p l e (headSpec wsX1_take ({ frames := 0, cells := 0, slots := 0, locals := 0 })).room s m args below meth c H locs 0 0 (MQ below (va_Qi (fun (r : Int32) (u : Sg) => P r u) (at_M1 dC dI A h ad ca tc cl tr) A) args s 0 0 A) (F0 m 118 ls []) := by
    intro B K131 x5 x6 g hB hK131 H locs ls hw hP hD hS hl
    unfold wM_take_j118 at hw
    refine lv_iconst (v := (1 : Int32)) hx hb dX1_take_118 (by decide) ?_
    refine lv_goto (tgt := 123) hx hb dX1_take_119 (by decide) ?_
    refine lv_istore (lv' := [(4, .int (1 : Int32)), (0, .ref h), (5, .int x5), (6, .int x6)]) hx hb dX1_take_123 hl (by decide) rfl (fun ls hl => ?_)
    refine lv_iinc (v := (x6 + 1)) (lv' := [(6, .int ((x6 + 1))), (4, .int (1 : Int32)), (0, .ref h), (5, .int x5)]) hx hb dX1_take_125 hl (k := 3) rfl rfl (by decide) rfl (fun ls hl => ?_)
    refine lv_goto (tgt := 71) hx hb dX1_take_128 (by decide) ?_
    exact hB (1 : Int32) (x6 + 1) g H locs ls hw hP hD hS (lv_sub hl [2, 1, 3, 0] rfl)
  have lp_71 : ∀ (x5 : Int32) (K131 : Int32 → Sg → Prop) (hK131 : ∀ (x4 : Int32) (g : Sg) (H : Heap) (locs : List Loc) (ls : Array Slot), K131 x4 g → va_P (dC, dI) vwCl (ML h ad ca tc cl tr g) H → va_D A (ML h ad ca tc cl tr g) → va_S A s.heap H locs → lv_has ls 7 [(0, .ref h), (4, .int x4), (5, .int x5)] → W p l e (headSpec wsX1_take ({ frames := 0, cells := 0, slots := 0, locals := 0 })).room s m args below meth c H locs 0 0 (MQ below (va_Qi (fun (r : Int32) (u : Sg) => P r u) (at_M1 dC dI A h ad ca tc cl tr) A) args s 0 0 A) (F0 m 131 ls [])), ∀ (n : Nat) (x4 : Int32) (x6 : Int32) (g : Sg) (H : Heap) (locs : List Loc) (ls : Array Slot), Lp3 (wM_take_b71 P tc cl tr x5 K131) n x4 x6 g → va_P (dC, dI) vwCl (ML h ad ca tc cl tr g) H → va_D A (ML h ad ca tc cl tr g) → va_S A s.heap H locs → lv_has ls 7 [(0, .ref h), (4, .int x4), (5, .int x5), (6, .int x6)] → W p l e (headSpec wsX1_take ({ frames := 0, cells := 0, slots := 0, locals := 0 })).room s m args below meth c H locs 0 0 (MQ below (va_Qi (fun (r : Int32) (u : Sg) => P r u) (at_M1 dC dI A h ad ca tc cl tr) A) args s 0 0 A) (F0 m 71 ls []) := by
    intro x5 K131 hK131
    intro n
    induction n with
    | zero => intro x4 x6 g H locs ls hw; exact False.elim hw
    | succ n hB =>
      intro x4 x6 g H locs ls hw hP hD hS hl
      replace hw : wM_take_b71 P tc cl tr x5 K131 (Lp3 (wM_take_b71 P tc cl tr x5 K131) n) x4 x6 g := hw
      unfold wM_take_b71 at hw
      refine lv_iload hx hb dX1_take_71 (lv_at hl 3 rfl) ?_
      refine lv_aload_n hx hb dX1_take_73 rfl (lv_at hl 0 rfl) ?_
      refine va_get (D := (dC, dI)) (ci := 1) (C := RX1) (T := TX1) (N := 9) hx hb hts inw hown hK hP 0 rfl rfl 0 (by decide) f7 (fun _ h9 => h9) rfl dX1_take_74 ?_
      refine lv_icmp_ge (tgt := 131) hx hb dX1_take_77 (by decide) (fun hc => ?_) (fun hc => ?_)
      · replace hw := hw.1 hc
        clear hc
        exact hK131 x4 g H locs ls hw hP hD hS (lv_sub hl [0, 1, 2] rfl)
      · replace hw := hw.2 hc
        clear hc
        refine lv_iload hx hb dX1_take_80 (lv_at hl 1 rfl) ?_
        refine lv_if_eq (tgt := 122) hx hb dX1_take_82 (by decide) (fun hc => ?_) (fun hc => ?_)
        · replace hw := hw.1 hc
          clear hc
          exact jn_122 _ _ x5 x6 g hB hK131 H locs ls hw hP hD hS (lv_sub hl [0, 2, 3] rfl)
        · replace hw := hw.2 hc
          clear hc
          refine lv_aload_n hx hb dX1_take_85 rfl (lv_at hl 0 rfl) ?_
          refine va_get (D := (dC, dI)) (ci := 1) (C := RX1) (T := TX1) (N := 9) hx hb hts inw hown hK hP 0 rfl rfl 1 (by decide) f13 (fun _ h9 => h9) rfl dX1_take_86 ?_
          refine lv_bipush (v := (8 : Int32)) hx hb dX1_take_89 (by decide) ?_
          refine lv_iload hx hb dX1_take_91 (lv_at hl 2 rfl) ?_
          refine lv_imul hx hb dX1_take_93 ?_
          refine lv_iload hx hb dX1_take_94 (lv_at hl 3 rfl) ?_
          refine lv_iadd hx hb dX1_take_96 ?_
          obtain ⟨hin, hw⟩ := hw
          refine va_zald hx hb hK hP 1 0 rfl rfl hin dX1_take_97 ?_
          refine lv_if_eq (tgt := 118) hx hb dX1_take_98 (by decide) (fun hc => ?_) (fun hc => ?_)
          · replace hw := hw.1 hc
            clear hc
            exact jn_118 _ _ x5 x6 g hB hK131 H locs ls hw hP hD hS (lv_sub hl [0, 2, 3] rfl)
          · replace hw := hw.2 hc
            clear hc
            refine lv_aload_n hx hb dX1_take_101 rfl (lv_at hl 0 rfl) ?_
            refine va_get (D := (dC, dI)) (ci := 1) (C := RX1) (T := TX1) (N := 9) hx hb hts inw hown hK hP 0 rfl rfl 7 (by decide) f27 (fun _ h9 => h9) rfl dX1_take_102 ?_
            refine lv_iload hx hb dX1_take_105 (lv_at hl 2 rfl) ?_
            obtain ⟨hin, hw⟩ := hw
            refine va_iald hx hb hK hP 5 4 rfl rfl hin dX1_take_107 ?_
            refine lv_aload_n hx hb dX1_take_108 rfl (lv_at hl 0 rfl) ?_
            refine va_get (D := (dC, dI)) (ci := 1) (C := RX1) (T := TX1) (N := 9) hx hb hts inw hown hK hP 0 rfl rfl 7 (by decide) f27 (fun _ h9 => h9) rfl dX1_take_109 ?_
            refine lv_iload hx hb dX1_take_112 (lv_at hl 3 rfl) ?_
            obtain ⟨hin, hw⟩ := hw
            refine va_iald hx hb hK hP 5 4 rfl rfl hin dX1_take_114 ?_
            refine lv_icmp_lt (tgt := 122) hx hb dX1_take_115 (by decide) (fun hc => ?_) (fun hc => ?_)
            · replace hw := hw.1 hc
              clear hc
              exact jn_122 _ _ x5 x6 g hB hK131 H locs ls hw hP hD hS (lv_sub hl [0, 2, 3] rfl)
            · replace hw := hw.2 hc
              clear hc
              exact jn_118 _ _ x5 x6 g hB hK131 H locs ls hw hP hD hS (lv_sub hl [0, 2, 3] rfl)
  have lp_56 : ∀ (n : Nat) (x4 : Int32) (x5 : Int32) (g : Sg) (H : Heap) (locs : List Loc) (ls : Array Slot), Lp3 (wM_take_b56 P tc cl tr) n x4 x5 g → va_P (dC, dI) vwCl (ML h ad ca tc cl tr g) H → va_D A (ML h ad ca tc cl tr g) → va_S A s.heap H locs → lv_has ls 7 [(0, .ref h), (4, .int x4), (5, .int x5)] → W p l e (headSpec wsX1_take ({ frames := 0, cells := 0, slots := 0, locals := 0 })).room s m args below meth c H locs 0 0 (MQ below (va_Qi (fun (r : Int32) (u : Sg) => P r u) (at_M1 dC dI A h ad ca tc cl tr) A) args s 0 0 A) (F0 m 56 ls []) := by
    intro n
    induction n with
    | zero => intro x4 x5 g H locs ls hw; exact False.elim hw
    | succ n hB =>
      intro x4 x5 g H locs ls hw hP hD hS hl
      replace hw : wM_take_b56 P tc cl tr (Lp3 (wM_take_b56 P tc cl tr) n) x4 x5 g := hw
      unfold wM_take_b56 at hw
      refine lv_iload hx hb dX1_take_56 (lv_at hl 2 rfl) ?_
      refine lv_aload_n hx hb dX1_take_58 rfl (lv_at hl 0 rfl) ?_
      refine va_get (D := (dC, dI)) (ci := 1) (C := RX1) (T := TX1) (N := 9) hx hb hts inw hown hK hP 0 rfl rfl 0 (by decide) f7 (fun _ h9 => h9) rfl dX1_take_59 ?_
      refine lv_icmp_ge (tgt := 137) hx hb dX1_take_62 (by decide) (fun hc => ?_) (fun hc => ?_)
      · replace hw := hw.1 hc
        clear hc
        refine lv_iload hx hb dX1_take_137 (lv_at hl 1 rfl) ?_
        obtain ⟨hisb, hw⟩ := hw
        exact W.zret (v := x4) hx hb hr (isB_nar hisb) (fun t ht hW => ⟨⟨x4, g, rfl, hw, by rw [ht]; exact hP, va_K.moved hW.alike hK, hD⟩, hS.F ht⟩) hS.2.2 dX1_take_139
      · replace hw := hw.2 hc
        clear hc
        refine lv_iload hx hb dX1_take_65 (lv_at hl 2 rfl) ?_
        refine lv_iconst (v := (1 : Int32)) hx hb dX1_take_67 (by decide) ?_
        refine lv_iadd hx hb dX1_take_68 ?_
        refine lv_topi (fun x6_3 hv => ?_)
        replace hw := hw x6_3 hv
        clear hv
        refine lv_istore (lv' := [(6, .int x6_3), (0, .ref h), (4, .int x4), (5, .int x5)]) hx hb dX1_take_69 hl (by decide) rfl (fun ls hl => ?_)
        obtain ⟨n_6, hw⟩ := hw
        refine lp_71 x5 _ ?_ n_6 x4 x6_3 g H locs ls hw hP hD hS (lv_sub hl [1, 2, 3, 0] rfl)
        · intro x4_4 g_5 H locs ls hw hP hD hS hl
          try dsimp only at hw
          refine lv_iinc (v := (x5 + 1)) (lv' := [(5, .int ((x5 + 1))), (0, .ref h), (4, .int x4_4)]) hx hb dX1_take_131 hl (k := 2) rfl rfl (by decide) rfl (fun ls hl => ?_)
          refine lv_goto (tgt := 56) hx hb dX1_take_134 (by decide) ?_
          exact hB x4_4 (x5 + 1) g_5 H locs ls hw hP hD hS (lv_sub hl [1, 2, 0] rfl)
  have jn_51 : ∀ (y0 : Int32) (g : Sg) (H : Heap) (locs : List Loc) (ls : Array Slot), wM_take_j51 P tc cl tr y0 g → va_P (dC, dI) vwCl (ML h ad ca tc cl tr g) H → va_D A (ML h ad ca tc cl tr g) → va_S A s.heap H locs → lv_has ls 7 [(0, .ref h)] → W p l e (headSpec wsX1_take ({ frames := 0, cells := 0, slots := 0, locals := 0 })).room s m args below meth c H locs 0 0 (MQ below (va_Qi (fun (r : Int32) (u : Sg) => P r u) (at_M1 dC dI A h ad ca tc cl tr) A) args s 0 0 A) (F0 m 51 ls [.int y0]) := by
    intro y0 g H locs ls hw hP hD hS hl
    unfold wM_take_j51 at hw
    refine lv_istore (lv' := [(4, .int y0), (0, .ref h)]) hx hb dX1_take_51 hl (by decide) rfl (fun ls hl => ?_)
    refine lv_iconst (v := (0 : Int32)) hx hb dX1_take_53 (by decide) ?_
    refine lv_istore (lv' := [(5, .int (0 : Int32)), (4, .int y0), (0, .ref h)]) hx hb dX1_take_54 hl (by decide) rfl (fun ls hl => ?_)
    obtain ⟨n_7, hw⟩ := hw
    exact lp_56 n_7 y0 (0 : Int32) g H locs ls hw hP hD hS (lv_sub hl [2, 1, 0] rfl)
  have jn_50 : ∀ (g : Sg) (H : Heap) (locs : List Loc) (ls : Array Slot), wM_take_j50 P tc cl tr g → va_P (dC, dI) vwCl (ML h ad ca tc cl tr g) H → va_D A (ML h ad ca tc cl tr g) → va_S A s.heap H locs → lv_has ls 7 [(0, .ref h)] → W p l e (headSpec wsX1_take ({ frames := 0, cells := 0, slots := 0, locals := 0 })).room s m args below meth c H locs 0 0 (MQ below (va_Qi (fun (r : Int32) (u : Sg) => P r u) (at_M1 dC dI A h ad ca tc cl tr) A) args s 0 0 A) (F0 m 50 ls []) := by
    intro g H locs ls hw hP hD hS hl
    unfold wM_take_j50 at hw
    refine lv_iconst (v := (0 : Int32)) hx hb dX1_take_50 (by decide) ?_
    exact jn_51 (0 : Int32) g H locs ls hw hP hD hS (lv_sub hl [0] rfl)
  subst hargs
  unfold wM_take at hw
  have hl := lv_entry ([.ref h, .int x1, .int x2]) (n := 7) (Nat.le_of_ble_eq_true rfl)
  rw [lg_entry_eq]
  generalize (lg_sl ([.ref h, .int x1, .int x2]) ++ List.replicate (7 - (lg_sl ([.ref h, .int x1, .int x2])).length) Slot.unset).toArray = ls at hl ⊢
  have hl : lv_has ls 7 [(0, .ref h), (1, .int x1), (2, .int x2)] := hl
  obtain ⟨H, hHe⟩ : ∃ z : Heap, z = s.heap := ⟨_, rfl⟩
  obtain ⟨locs, hLe⟩ : ∃ z : List Loc, z = [] := ⟨_, rfl⟩
  have hS : va_S A s.heap H locs := by rw [hHe, hLe]; exact hS
  have hP : va_P (dC, dI) vwCl (ML h ad ca tc cl tr g) H := by rw [hHe]; exact hP
  have hgo : W p l e (headSpec wsX1_take ({ frames := 0, cells := 0, slots := 0, locals := 0 })).room s m ([.ref h, .int x1, .int x2] : List Value).toArray below meth c H locs 0 0 (MQ below (va_Qi (fun (r : Int32) (u : Sg) => P r u) (at_M1 dC dI A h ad ca tc cl tr) A) ([.ref h, .int x1, .int x2] : List Value).toArray s 0 0 A) (F0 m 0 ls []) := by
    clear hHe hLe
    refine lv_iload_n hx hb dX1_take_0 rfl (lv_at hl 2 rfl) ?_
    refine lv_istore_n (lv' := [(3, .int x2), (0, .ref h), (1, .int x1), (2, .int x2)]) hx hb dX1_take_1 rfl hl (by decide) rfl (fun ls hl => ?_)
    refine lv_iconst (v := (0 : Int32)) hx hb dX1_take_2 (by decide) ?_
    refine lv_istore (lv' := [(4, .int (0 : Int32)), (3, .int x2), (0, .ref h), (1, .int x1), (2, .int x2)]) hx hb dX1_take_3 hl (by decide) rfl (fun ls hl => ?_)
    obtain ⟨n_10, hw⟩ := hw
    refine lp_5 x1 x2 _ ?_ n_10 x2 (0 : Int32) g H locs ls hw hP hD hS (lv_sub hl [2, 3, 4, 1, 0] rfl)
    · intro x3_8 g_9 H locs ls hw hP hD hS hl
      try dsimp only at hw
      refine lv_iload_n hx hb dX1_take_38 rfl (lv_at hl 2 rfl) ?_
      refine lv_if_ne (tgt := 50) hx hb dX1_take_39 (by decide) (fun hc => ?_) (fun hc => ?_)
      · replace hw := hw.1 hc
        clear hc
        exact jn_50 g_9 H locs ls hw hP hD hS (lv_sub hl [0] rfl)
      · replace hw := hw.2 hc
        clear hc
        refine lv_iload_n hx hb dX1_take_42 rfl (lv_at hl 1 rfl) ?_
        refine lv_if_lt (tgt := 50) hx hb dX1_take_43 (by decide) (fun hc => ?_) (fun hc => ?_)
        · replace hw := hw.1 hc
          clear hc
          exact jn_50 g_9 H locs ls hw hP hD hS (lv_sub hl [0] rfl)
        · replace hw := hw.2 hc
          clear hc
          refine lv_iconst (v := (1 : Int32)) hx hb dX1_take_46 (by decide) ?_
          refine lv_goto (tgt := 51) hx hb dX1_take_47 (by decide) ?_
          exact jn_51 (1 : Int32) g_9 H locs ls hw hP hD hS (lv_sub hl [0] rfl)
  rw [hHe, hLe] at hgo
  exact hgo
-- X1_number
set_option maxHeartbeats 4000000 in
set_option maxRecDepth 100000 in
theorem cM_number (l : Launch) (dC : Nat → ClassId) (dI : Nat → Nat → Nat) (h : Nat) (ad : Nat → Nat) (ca : Nat → ClassId) (tc cl : Int32) (tr : Int64) (g : Sg) (x1 : Int32) (P : Int32 → Prop) (hw : wM_number P tc cl tr g x1) : Met l yX1_number wsX1_number ({ frames := 0, cells := 0, slots := 0, locals := 0 }) (va_Pc [.ref h, .int x1] (fun U => va_P (dC, dI) vwCl (ML h ad ca tc cl tr g) U.heap ∧ va_K (dC, dI) vwCl (MT ca) U)) (vp_Si P) 0 0 (fun _ => False) := by
  refine Met.ofW (cc := cX1_number) (maxL := 4) (ret := (some .int)) (by decide) rfl ?_
  intro p e s m args below meth c s₁ B0 hml hv
  obtain ⟨hargs, hP, hK⟩ := hv
  have hx := B0.exec
  have hb := B0.bytes
  have hr := B0.returns
  have hts := atoms_spec (ws := wsX1_number) B0.pre
  have hown : s.vm.findClass RX1 = some m.cls := findClass_of_methodNamed B0.named
  have hlocks := B0.notSynchronized
  have inw : ∀ w ∈ wsX10, w ∈ wsX1_number := fun w h => List.mem_cons_of_mem _ (List.mem_append_right _ h)
  have f7 : (Cond.fieldLink RX1 7 "FlipHeapsModel" "things" "I").before args s = true := hts _ (by decide +kernel)
  have f27 : (Cond.fieldLink RX1 27 "FlipHeapsModel" "digit" "[I").before args s = true := hts _ (by decide +kernel)
  have lp_9 : ∀ (x1 : Int32), ∀ (n : Nat) (x2 : Int32) (x3 : Int32) (ls : Array Slot), Lp2 (wM_number_b9 P tc cl tr g x1) n x2 x3 → lv_has ls 4 [(0, .ref h), (1, .int x1), (2, .int x2), (3, .int x3)] → W p l e (headSpec wsX1_number ({ frames := 0, cells := 0, slots := 0, locals := 0 })).room s m args below meth c s.heap [] 0 0 (MQ below (vp_Si P) args s 0 0 (fun _ => False)) (F0 m 9 ls []) := by
    intro x1
    intro n
    induction n with
    | zero => intro x2 x3 ls hw; exact False.elim hw
    | succ n hB =>
      intro x2 x3 ls hw hl
      replace hw : wM_number_b9 P tc cl tr g x1 (Lp2 (wM_number_b9 P tc cl tr g x1) n) x2 x3 := hw
      unfold wM_number_b9 at hw
      refine lv_iload_n hx hb dX1_number_9 rfl (lv_at hl 3 rfl) ?_
      refine lv_if_lt (tgt := 32) hx hb dX1_number_10 (by decide) (fun hc => ?_) (fun hc => ?_)
      · replace hw := hw.1 hc
        clear hc
        refine lv_iload_n hx hb dX1_number_32 rfl (lv_at hl 2 rfl) ?_
        exact W.iret (v := x2) hx hb hr (fun t ht hW => ⟨_, rfl, hw, ht⟩) (fun q h => absurd h List.not_mem_nil) dX1_number_33
      · replace hw := hw.2 hc
        clear hc
        refine lv_iload_n hx hb dX1_number_13 rfl (lv_at hl 1 rfl) ?_
        refine lv_iconst (v := (1 : Int32)) hx hb dX1_number_14 (by decide) ?_
        refine lv_iadd hx hb dX1_number_15 ?_
        refine lv_iload_n hx hb dX1_number_16 rfl (lv_at hl 2 rfl) ?_
        refine lv_imul hx hb dX1_number_17 ?_
        refine lv_aload_n hx hb dX1_number_18 rfl (lv_at hl 0 rfl) ?_
        refine va_get (D := (dC, dI)) (ci := 1) (C := RX1) (T := TX1) (N := 9) hx hb hts inw hown hK hP 0 rfl rfl 7 (by decide) f27 (fun _ h9 => h9) rfl dX1_number_19 ?_
        refine lv_iload_n hx hb dX1_number_22 rfl (lv_at hl 3 rfl) ?_
        obtain ⟨hin, hw⟩ := hw
        refine va_iald hx hb hK hP 5 4 rfl rfl hin dX1_number_23 ?_
        refine lv_iadd hx hb dX1_number_24 ?_
        refine lv_topi (fun x2_1 hv => ?_)
        replace hw := hw x2_1 hv
        clear hv
        refine lv_istore_n (lv' := [(2, .int x2_1), (0, .ref h), (1, .int x1), (3, .int x3)]) hx hb dX1_number_25 rfl hl (by decide) rfl (fun ls hl => ?_)
        refine lv_iinc (v := (x3 + (-1))) (lv' := [(3, .int ((x3 + (-1)))), (2, .int x2_1), (0, .ref h), (1, .int x1)]) hx hb dX1_number_26 hl (k := 3) rfl rfl (by decide) rfl (fun ls hl => ?_)
        refine lv_goto (tgt := 9) hx hb dX1_number_29 (by decide) ?_
        exact hB x2_1 (x3 + (-1)) ls hw (lv_sub hl [2, 3, 1, 0] rfl)
  subst hargs
  unfold wM_number at hw
  have hl := lv_entry ([.ref h, .int x1]) (n := 4) (Nat.le_of_ble_eq_true rfl)
  rw [lg_entry_eq]
  generalize (lg_sl ([.ref h, .int x1]) ++ List.replicate (4 - (lg_sl ([.ref h, .int x1])).length) Slot.unset).toArray = ls at hl ⊢
  have hl : lv_has ls 4 [(0, .ref h), (1, .int x1)] := hl
  refine lv_iconst (v := (0 : Int32)) hx hb dX1_number_0 (by decide) ?_
  refine lv_istore_n (lv' := [(2, .int (0 : Int32)), (0, .ref h), (1, .int x1)]) hx hb dX1_number_1 rfl hl (by decide) rfl (fun ls hl => ?_)
  refine lv_aload_n hx hb dX1_number_2 rfl (lv_at hl 1 rfl) ?_
  refine va_get (D := (dC, dI)) (ci := 1) (C := RX1) (T := TX1) (N := 9) hx hb hts inw hown hK hP 0 rfl rfl 0 (by decide) f7 (fun _ h9 => h9) rfl dX1_number_3 ?_
  refine lv_iconst (v := (1 : Int32)) hx hb dX1_number_6 (by decide) ?_
  refine lv_isub hx hb dX1_number_7 ?_
  refine lv_topi (fun x3_2 hv => ?_)
  replace hw := hw x3_2 hv
  clear hv
  refine lv_istore_n (lv' := [(3, .int x3_2), (2, .int (0 : Int32)), (0, .ref h), (1, .int x1)]) hx hb dX1_number_8 rfl hl (by decide) rfl (fun ls hl => ?_)
  obtain ⟨n_3, hw⟩ := hw
  exact lp_9 x1 n_3 (0 : Int32) x3_2 ls hw (lv_sub hl [2, 3, 1, 0] rfl)
-- X1_bends
set_option maxHeartbeats 4000000 in
set_option maxRecDepth 100000 in
theorem cM_bends (l : Launch) (dC : Nat → ClassId) (dI : Nat → Nat → Nat) (h : Nat) (ad : Nat → Nat) (ca : Nat → ClassId) (sz : Nat) (tc cl : Int32) (tr : Int64) (g : Sg) (x1 : Int32) (x2 : Int32) (P : Sg → Prop) (hw : wM_bends P tc cl tr g x1 x2) : Met l yX1_bends wsX1_bends ({ frames := 0, cells := 0, slots := 0, locals := 0 }) (va_Pc [.ref h, .int x1, .int x2] (fun U => U.heap.size = sz ∧ va_P (dC, dI) vwCl (ML h ad ca tc cl tr g) U.heap ∧ va_K (dC, dI) vwCl (MT ca) U ∧ va_D (fun _ => True) (ML h ad ca tc cl tr g))) (va_Qv (fun (u : Sg) => P u) (at_M1 dC dI (va_A (ML h ad ca tc cl tr g) sz) h ad ca tc cl tr) (va_A (ML h ad ca tc cl tr g) sz)) 0 0 (va_A (ML h ad ca tc cl tr g) sz) := by
  refine Met.ofW (cc := cX1_bends) (maxL := 6) (ret := none) (by decide) rfl ?_
  intro p e s m args below meth c s₁ B0 hml hv
  obtain ⟨hargs, hsz, hP, hK, hD0⟩ := hv
  have hx := B0.exec
  have hb := B0.bytes
  have hr := B0.returns
  have hts := atoms_spec (ws := wsX1_bends) B0.pre
  have hown : s.vm.findClass RX1 = some m.cls := findClass_of_methodNamed B0.named
  have hlocks := B0.notSynchronized
  have inw : ∀ w ∈ wsX10, w ∈ wsX1_bends := fun w h => List.mem_cons_of_mem _ (List.mem_append_right _ h)
  have f7 : (Cond.fieldLink RX1 7 "FlipHeapsModel" "things" "I").before args s = true := hts _ (by decide +kernel)
  have f13 : (Cond.fieldLink RX1 13 "FlipHeapsModel" "isBelow" "[Z").before args s = true := hts _ (by decide +kernel)
  have f27 : (Cond.fieldLink RX1 27 "FlipHeapsModel" "digit" "[I").before args s = true := hts _ (by decide +kernel)
  subst hsz
  have hD := hD0.self (sz := s.heap.size)
  generalize hAe : va_A (ML h ad ca tc cl tr g) s.heap.size = A at hD ⊢
  have hA : ∀ q : Nat, s.heap.size ≤ q → A q := fun q h => by rw [← hAe]; exact Or.inr h
  clear hAe hD0
  have hS : va_S A s.heap s.heap [] := va_S.rf
  have jn_54 : ∀ (B : Int32 → Int32 → Int32 → Sg → Prop) (K102 : Int32 → Int32 → Sg → Prop) (x2 : Int32) (x4 : Int32) (x5 : Int32) (y0 : Int32) (g : Sg) (hB : ∀ (x3 : Int32) (x4 : Int32) (x5 : Int32) (g : Sg) (H : Heap) (locs : List Loc) (ls : Array Slot), B x3 x4 x5 g → va_P (dC, dI) vwCl (ML h ad ca tc cl tr g) H → va_D A (ML h ad ca tc cl tr g) → va_S A s.heap H locs → lv_has ls 6 [(0, .ref h), (2, .int x2), (3, .int x3), (4, .int x4), (5, .int x5)] → W p l e (headSpec wsX1_bends ({ frames := 0, cells := 0, slots := 0, locals := 0 })).room s m args below meth c H locs 0 0 (MQ below (va_Qv (fun (u : Sg) => P u) (at_M1 dC dI A h ad ca tc cl tr) A) args s 0 0 A) (F0 m 8 ls [])) (hK102 : ∀ (x3 : Int32) (x4 : Int32) (g : Sg) (H : Heap) (locs : List Loc) (ls : Array Slot), K102 x3 x4 g → va_P (dC, dI) vwCl (ML h ad ca tc cl tr g) H → va_D A (ML h ad ca tc cl tr g) → va_S A s.heap H locs → lv_has ls 6 [(0, .ref h), (2, .int x2), (3, .int x3), (4, .int x4)] → W p l e (headSpec wsX1_bends ({ frames := 0, cells := 0, slots := 0, locals := 0 })).room s m args below meth c H locs 0 0 (MQ below (va_Qv (fun (u : Sg) => P u) (at_M1 dC dI A h ad ca tc cl tr) A) args s 0 0 A) (F0 m 102 ls [])) (H : Heap) (locs : List Loc) (ls : Array Slot), wM_bends_j54 P tc cl tr B K102 x2 x4 x5 y0 g → va_P (dC, dI) vwCl (ML h ad ca tc cl tr g) H → va_D A (ML h ad ca tc cl tr g) → va_S A s.heap H locs → lv_has ls 6 [(0, .ref h), (2, .int x2), (4, .int x4), (5, .int x5)] → W p l e (headSpec wsX1_bends ({ frames := 0, cells := 0, slots := 0, locals := 0 })).room s m args below meth c H locs 0 0 (MQ below (va_Qv (fun (u : Sg) => P u) (at_M1 dC dI A h ad ca tc cl tr) A) args s 0 0 A) (F0 m 54 ls [.int y0]) := by
    intro B K102 x2 x4 x5 y0 g hB hK102 H locs ls hw hP hD hS hl
    unfold wM_bends_j54 at hw
    refine lv_istore_n (lv' := [(3, .int y0), (0, .ref h), (2, .int x2), (4, .int x4), (5, .int x5)]) hx hb dX1_bends_54 rfl hl (by decide) rfl (fun ls hl => ?_)
    refine lv_aload_n hx hb dX1_bends_55 rfl (lv_at hl 1 rfl) ?_
    refine va_get (D := (dC, dI)) (ci := 1) (C := RX1) (T := TX1) (N := 9) hx hb hts inw hown hK hP 0 rfl rfl 1 (by decide) f13 (fun _ h9 => h9) rfl dX1_bends_56 ?_
    refine lv_bipush (v := (8 : Int32)) hx hb dX1_bends_59 (by decide) ?_
    refine lv_iload_n hx hb dX1_bends_61 rfl (lv_at hl 2 rfl) ?_
    refine lv_imul hx hb dX1_bends_62 ?_
    refine lv_iload hx hb dX1_bends_63 (lv_at hl 4 rfl) ?_
    refine lv_iadd hx hb dX1_bends_65 ?_
    obtain ⟨hin, hw⟩ := hw
    refine va_zald hx hb hK hP 1 0 rfl rfl hin dX1_bends_66 ?_
    refine lv_if_eq (tgt := 92) hx hb dX1_bends_67 (by decide) (fun hc => ?_) (fun hc => ?_)
    · replace hw := hw.1 hc
      clear hc
      refine lv_iload hx hb dX1_bends_92 (lv_at hl 3 rfl) ?_
      refine lv_istore (lv' := [(4, .int x4), (3, .int y0), (0, .ref h), (2, .int x2), (5, .int x5)]) hx hb dX1_bends_94 hl (by decide) rfl (fun ls hl => ?_)
      refine lv_iinc (v := (x5 + 1)) (lv' := [(5, .int ((x5 + 1))), (4, .int x4), (3, .int y0), (0, .ref h), (2, .int x2)]) hx hb dX1_bends_96 hl (k := 4) rfl rfl (by decide) rfl (fun ls hl => ?_)
      refine lv_goto (tgt := 8) hx hb dX1_bends_99 (by decide) ?_
      exact hB y0 x4 (x5 + 1) g H locs ls hw hP hD hS (lv_sub hl [3, 4, 2, 1, 0] rfl)
    · replace hw := hw.2 hc
      clear hc
      refine lv_aload_n hx hb dX1_bends_70 rfl (lv_at hl 1 rfl) ?_
      refine va_get (D := (dC, dI)) (ci := 1) (C := RX1) (T := TX1) (N := 9) hx hb hts inw hown hK hP 0 rfl rfl 7 (by decide) f27 (fun _ h9 => h9) rfl dX1_bends_71 ?_
      refine lv_iload hx hb dX1_bends_74 (lv_at hl 4 rfl) ?_
      obtain ⟨hin, hw⟩ := hw
      refine va_iald hx hb hK hP 5 4 rfl rfl hin dX1_bends_76 ?_
      refine lv_iload hx hb dX1_bends_77 (lv_at hl 3 rfl) ?_
      refine lv_icmp_le (tgt := 92) hx hb dX1_bends_79 (by decide) (fun hc => ?_) (fun hc => ?_)
      · replace hw := hw.1 hc
        clear hc
        refine lv_iload hx hb dX1_bends_92 (lv_at hl 3 rfl) ?_
        refine lv_istore (lv' := [(4, .int x4), (3, .int y0), (0, .ref h), (2, .int x2), (5, .int x5)]) hx hb dX1_bends_94 hl (by decide) rfl (fun ls hl => ?_)
        refine lv_iinc (v := (x5 + 1)) (lv' := [(5, .int ((x5 + 1))), (4, .int x4), (3, .int y0), (0, .ref h), (2, .int x2)]) hx hb dX1_bends_96 hl (k := 4) rfl rfl (by decide) rfl (fun ls hl => ?_)
        refine lv_goto (tgt := 8) hx hb dX1_bends_99 (by decide) ?_
        exact hB y0 x4 (x5 + 1) g H locs ls hw hP hD hS (lv_sub hl [3, 4, 2, 1, 0] rfl)
      · replace hw := hw.2 hc
        clear hc
        refine lv_aload_n hx hb dX1_bends_82 rfl (lv_at hl 1 rfl) ?_
        refine va_get (D := (dC, dI)) (ci := 1) (C := RX1) (T := TX1) (N := 9) hx hb hts inw hown hK hP 0 rfl rfl 7 (by decide) f27 (fun _ h9 => h9) rfl dX1_bends_83 ?_
        refine lv_iload hx hb dX1_bends_86 (lv_at hl 4 rfl) ?_
        obtain ⟨hin, hw⟩ := hw
        refine va_iald hx hb hK hP 5 4 rfl rfl hin dX1_bends_88 ?_
        refine lv_goto (tgt := 94) hx hb dX1_bends_89 (by decide) ?_
        refine lv_topi (fun x4_1 hv => ?_)
        replace hw := hw x4_1 hv
        clear hv
        refine lv_istore (lv' := [(4, .int x4_1), (3, .int y0), (0, .ref h), (2, .int x2), (5, .int x5)]) hx hb dX1_bends_94 hl (by decide) rfl (fun ls hl => ?_)
        refine lv_iinc (v := (x5 + 1)) (lv' := [(5, .int ((x5 + 1))), (4, .int x4_1), (3, .int y0), (0, .ref h), (2, .int x2)]) hx hb dX1_bends_96 hl (k := 4) rfl rfl (by decide) rfl (fun ls hl => ?_)
        refine lv_goto (tgt := 8) hx hb dX1_bends_99 (by decide) ?_
        exact hB y0 x4_1 (x5 + 1) g H locs ls hw hP hD hS (lv_sub hl [3, 4, 2, 1, 0] rfl)
  have jn_53 : ∀ (B : Int32 → Int32 → Int32 → Sg → Prop) (K102 : Int32 → Int32 → Sg → Prop) (x2 : Int32) (x3 : Int32) (x4 : Int32) (x5 : Int32) (g : Sg) (hB : ∀ (x3 : Int32) (x4 : Int32) (x5 : Int32) (g : Sg) (H : Heap) (locs : List Loc) (ls : Array Slot), B x3 x4 x5 g → va_P (dC, dI) vwCl (ML h ad ca tc cl tr g) H → va_D A (ML h ad ca tc cl tr g) → va_S A s.heap H locs → lv_has ls 6 [(0, .ref h), (2, .int x2), (3, .int x3), (4, .int x4), (5, .int x5)] → W p l e (headSpec wsX1_bends ({ frames := 0, cells := 0, slots := 0, locals := 0 })).room s m args below meth c H locs 0 0 (MQ below (va_Qv (fun (u : Sg) => P u) (at_M1 dC dI A h ad ca tc cl tr) A) args s 0 0 A) (F0 m 8 ls [])) (hK102 : ∀ (x3 : Int32) (x4 : Int32) (g : Sg) (H : Heap) (locs : List Loc) (ls : Array Slot), K102 x3 x4 g → va_P (dC, dI) vwCl (ML h ad ca tc cl tr g) H → va_D A (ML h ad ca tc cl tr g) → va_S A s.heap H locs → lv_has ls 6 [(0, .ref h), (2, .int x2), (3, .int x3), (4, .int x4)] → W p l e (headSpec wsX1_bends ({ frames := 0, cells := 0, slots := 0, locals := 0 })).room s m args below meth c H locs 0 0 (MQ below (va_Qv (fun (u : Sg) => P u) (at_M1 dC dI A h ad ca tc cl tr) A) args s 0 0 A) (F0 m 102 ls [])) (H : Heap) (locs : List Loc) (ls : Array Slot), wM_bends_j53 P tc cl tr B K102 x2 x3 x4 x5 g → va_P (dC, dI) vwCl (ML h ad ca tc cl tr g) H → va_D A (ML h ad ca tc cl tr g) → va_S A s.heap H locs → lv_has ls 6 [(0, .ref h), (2, .int x2), (3, .int x3), (4, .int x4), (5, .int x5)] → W p l e (headSpec wsX1_bends ({ frames := 0, cells := 0, slots := 0, locals := 0 })).room s m args below meth c H locs 0 0 (MQ below (va_Qv (fun (u : Sg) => P u) (at_M1 dC dI A h ad ca tc cl tr) A) args s 0 0 A) (F0 m 53 ls []) := by
    intro B K102 x2 x3 x4 x5 g hB hK102 H locs ls hw hP hD hS hl
    unfold wM_bends_j53 at hw
    refine lv_iload_n hx hb dX1_bends_53 rfl (lv_at hl 2 rfl) ?_
    exact jn_54 _ _ x2 x4 x5 x3 g hB hK102 H locs ls hw hP hD hS (lv_sub hl [0, 1, 3, 4] rfl)
  have lp_8 : ∀ (x2 : Int32) (K102 : Int32 → Int32 → Sg → Prop) (hK102 : ∀ (x3 : Int32) (x4 : Int32) (g : Sg) (H : Heap) (locs : List Loc) (ls : Array Slot), K102 x3 x4 g → va_P (dC, dI) vwCl (ML h ad ca tc cl tr g) H → va_D A (ML h ad ca tc cl tr g) → va_S A s.heap H locs → lv_has ls 6 [(0, .ref h), (2, .int x2), (3, .int x3), (4, .int x4)] → W p l e (headSpec wsX1_bends ({ frames := 0, cells := 0, slots := 0, locals := 0 })).room s m args below meth c H locs 0 0 (MQ below (va_Qv (fun (u : Sg) => P u) (at_M1 dC dI A h ad ca tc cl tr) A) args s 0 0 A) (F0 m 102 ls [])), ∀ (n : Nat) (x3 : Int32) (x4 : Int32) (x5 : Int32) (g : Sg) (H : Heap) (locs : List Loc) (ls : Array Slot), Lp4 (wM_bends_b8 P tc cl tr x2 K102) n x3 x4 x5 g → va_P (dC, dI) vwCl (ML h ad ca tc cl tr g) H → va_D A (ML h ad ca tc cl tr g) → va_S A s.heap H locs → lv_has ls 6 [(0, .ref h), (2, .int x2), (3, .int x3), (4, .int x4), (5, .int x5)] → W p l e (headSpec wsX1_bends ({ frames := 0, cells := 0, slots := 0, locals := 0 })).room s m args below meth c H locs 0 0 (MQ below (va_Qv (fun (u : Sg) => P u) (at_M1 dC dI A h ad ca tc cl tr) A) args s 0 0 A) (F0 m 8 ls []) := by
    intro x2 K102 hK102
    intro n
    induction n with
    | zero => intro x3 x4 x5 g H locs ls hw; exact False.elim hw
    | succ n hB =>
      intro x3 x4 x5 g H locs ls hw hP hD hS hl
      replace hw : wM_bends_b8 P tc cl tr x2 K102 (Lp4 (wM_bends_b8 P tc cl tr x2 K102) n) x3 x4 x5 g := hw
      unfold wM_bends_b8 at hw
      refine lv_iload hx hb dX1_bends_8 (lv_at hl 4 rfl) ?_
      refine lv_aload_n hx hb dX1_bends_10 rfl (lv_at hl 0 rfl) ?_
      refine va_get (D := (dC, dI)) (ci := 1) (C := RX1) (T := TX1) (N := 9) hx hb hts inw hown hK hP 0 rfl rfl 0 (by decide) f7 (fun _ h9 => h9) rfl dX1_bends_11 ?_
      refine lv_icmp_ge (tgt := 102) hx hb dX1_bends_14 (by decide) (fun hc => ?_) (fun hc => ?_)
      · replace hw := hw.1 hc
        clear hc
        exact hK102 x3 x4 g H locs ls hw hP hD hS (lv_sub hl [0, 1, 2, 3] rfl)
      · replace hw := hw.2 hc
        clear hc
        refine lv_aload_n hx hb dX1_bends_17 rfl (lv_at hl 0 rfl) ?_
        refine va_get (D := (dC, dI)) (ci := 1) (C := RX1) (T := TX1) (N := 9) hx hb hts inw hown hK hP 0 rfl rfl 1 (by decide) f13 (fun _ h9 => h9) rfl dX1_bends_18 ?_
        refine lv_bipush (v := (8 : Int32)) hx hb dX1_bends_21 (by decide) ?_
        refine lv_iload hx hb dX1_bends_23 (lv_at hl 4 rfl) ?_
        refine lv_imul hx hb dX1_bends_25 ?_
        refine lv_iload_n hx hb dX1_bends_26 rfl (lv_at hl 1 rfl) ?_
        refine lv_iadd hx hb dX1_bends_27 ?_
        obtain ⟨hin, hw⟩ := hw
        refine va_zald hx hb hK hP 1 0 rfl rfl hin dX1_bends_28 ?_
        refine lv_if_eq (tgt := 53) hx hb dX1_bends_29 (by decide) (fun hc => ?_) (fun hc => ?_)
        · replace hw := hw.1 hc
          clear hc
          exact jn_53 _ _ x2 x3 x4 x5 g hB hK102 H locs ls hw hP hD hS (lv_sub hl [0, 1, 2, 3, 4] rfl)
        · replace hw := hw.2 hc
          clear hc
          refine lv_aload_n hx hb dX1_bends_32 rfl (lv_at hl 0 rfl) ?_
          refine va_get (D := (dC, dI)) (ci := 1) (C := RX1) (T := TX1) (N := 9) hx hb hts inw hown hK hP 0 rfl rfl 7 (by decide) f27 (fun _ h9 => h9) rfl dX1_bends_33 ?_
          refine lv_iload hx hb dX1_bends_36 (lv_at hl 4 rfl) ?_
          obtain ⟨hin, hw⟩ := hw
          refine va_iald hx hb hK hP 5 4 rfl rfl hin dX1_bends_38 ?_
          refine lv_iload_n hx hb dX1_bends_39 rfl (lv_at hl 2 rfl) ?_
          refine lv_icmp_ge (tgt := 53) hx hb dX1_bends_40 (by decide) (fun hc => ?_) (fun hc => ?_)
          · replace hw := hw.1 hc
            clear hc
            exact jn_53 _ _ x2 x3 x4 x5 g hB hK102 H locs ls hw hP hD hS (lv_sub hl [0, 1, 2, 3, 4] rfl)
          · replace hw := hw.2 hc
            clear hc
            refine lv_aload_n hx hb dX1_bends_43 rfl (lv_at hl 0 rfl) ?_
            refine va_get (D := (dC, dI)) (ci := 1) (C := RX1) (T := TX1) (N := 9) hx hb hts inw hown hK hP 0 rfl rfl 7 (by decide) f27 (fun _ h9 => h9) rfl dX1_bends_44 ?_
            refine lv_iload hx hb dX1_bends_47 (lv_at hl 4 rfl) ?_
            obtain ⟨hin, hw⟩ := hw
            refine va_iald hx hb hK hP 5 4 rfl rfl hin dX1_bends_49 ?_
            refine lv_goto (tgt := 54) hx hb dX1_bends_50 (by decide) ?_
            exact jn_54 _ _ x2 x4 x5 (g 7 (x5).toNatClampNeg) g hB hK102 H locs ls hw hP hD hS (lv_sub hl [0, 1, 3, 4] rfl)
  subst hargs
  unfold wM_bends at hw
  have hl := lv_entry ([.ref h, .int x1, .int x2]) (n := 6) (Nat.le_of_ble_eq_true rfl)
  rw [lg_entry_eq]
  generalize (lg_sl ([.ref h, .int x1, .int x2]) ++ List.replicate (6 - (lg_sl ([.ref h, .int x1, .int x2])).length) Slot.unset).toArray = ls at hl ⊢
  have hl : lv_has ls 6 [(0, .ref h), (1, .int x1), (2, .int x2)] := hl
  obtain ⟨H, hHe⟩ : ∃ z : Heap, z = s.heap := ⟨_, rfl⟩
  obtain ⟨locs, hLe⟩ : ∃ z : List Loc, z = [] := ⟨_, rfl⟩
  have hS : va_S A s.heap H locs := by rw [hHe, hLe]; exact hS
  have hP : va_P (dC, dI) vwCl (ML h ad ca tc cl tr g) H := by rw [hHe]; exact hP
  have hgo : W p l e (headSpec wsX1_bends ({ frames := 0, cells := 0, slots := 0, locals := 0 })).room s m ([.ref h, .int x1, .int x2] : List Value).toArray below meth c H locs 0 0 (MQ below (va_Qv (fun (u : Sg) => P u) (at_M1 dC dI A h ad ca tc cl tr) A) ([.ref h, .int x1, .int x2] : List Value).toArray s 0 0 A) (F0 m 0 ls []) := by
    clear hHe hLe
    refine lv_iload_n hx hb dX1_bends_0 rfl (lv_at hl 1 rfl) ?_
    refine lv_istore_n (lv' := [(3, .int x1), (0, .ref h), (1, .int x1), (2, .int x2)]) hx hb dX1_bends_1 rfl hl (by decide) rfl (fun ls hl => ?_)
    refine lv_iconst (v := (0 : Int32)) hx hb dX1_bends_2 (by decide) ?_
    refine lv_istore (lv' := [(4, .int (0 : Int32)), (3, .int x1), (0, .ref h), (1, .int x1), (2, .int x2)]) hx hb dX1_bends_3 hl (by decide) rfl (fun ls hl => ?_)
    refine lv_iconst (v := (0 : Int32)) hx hb dX1_bends_5 (by decide) ?_
    refine lv_istore (lv' := [(5, .int (0 : Int32)), (4, .int (0 : Int32)), (3, .int x1), (0, .ref h), (1, .int x1), (2, .int x2)]) hx hb dX1_bends_6 hl (by decide) rfl (fun ls hl => ?_)
    obtain ⟨n_6, hw⟩ := hw
    refine lp_8 x2 _ ?_ n_6 x1 (0 : Int32) (0 : Int32) g H locs ls hw hP hD hS (lv_sub hl [3, 5, 2, 1, 0] rfl)
    · intro x3_2 x4_3 g_4 H locs ls hw hP hD hS hl
      try dsimp only at hw
      refine lv_aload_n hx hb dX1_bends_102 rfl (lv_at hl 0 rfl) ?_
      refine va_get (D := (dC, dI)) (ci := 1) (C := RX1) (T := TX1) (N := 9) hx hb hts inw hown hK hP 0 rfl rfl 7 (by decide) f27 (fun _ h9 => h9) rfl dX1_bends_103 ?_
      refine lv_iload_n hx hb dX1_bends_106 rfl (lv_at hl 1 rfl) ?_
      refine lv_iload_n hx hb dX1_bends_107 rfl (lv_at hl 2 rfl) ?_
      refine lv_iload hx hb dX1_bends_108 (lv_at hl 3 rfl) ?_
      refine lv_iadd hx hb dX1_bends_110 ?_
      refine lv_aload_n hx hb dX1_bends_111 rfl (lv_at hl 0 rfl) ?_
      refine va_get (D := (dC, dI)) (ci := 1) (C := RX1) (T := TX1) (N := 9) hx hb hts inw hown hK hP 0 rfl rfl 7 (by decide) f27 (fun _ h9 => h9) rfl dX1_bends_112 ?_
      refine lv_iload_n hx hb dX1_bends_115 rfl (lv_at hl 1 rfl) ?_
      obtain ⟨hin, hw⟩ := hw
      refine va_iald hx hb hK hP 5 4 rfl rfl hin dX1_bends_116 ?_
      refine lv_isub hx hb dX1_bends_117 ?_
      obtain ⟨hin, hw⟩ := hw
      refine va_iast hx hb hK hP hD hS 5 4 rfl rfl hin dX1_bends_118 (fun H locs hP hD hS => ?_)
      obtain ⟨g_5, hg⟩ : ∃ z : Sg, z = up2 g_4 7 (x2).toNatClampNeg ((x3_2 + x4_3) - (g_4 7 (x2).toNatClampNeg)) := ⟨_, rfl⟩
      replace hw := hw g_5 hg
      have hP : va_P (dC, dI) vwCl (ML h ad ca tc cl tr g_5) H := by rw [hg]; exact hP
      have hD : va_D A (ML h ad ca tc cl tr g_5) := by rw [hg]; exact hD
      clear hg
      exact W.vret hx hb hr (fun t ht hW => ⟨⟨g_5, rfl, hw, by rw [ht]; exact hP, va_K.moved hW.alike hK, hD⟩, hS.F ht⟩) hS.2.2 dX1_bends_119
  rw [hHe, hLe] at hgo
  exact hgo
-- X1_rounds
set_option maxHeartbeats 4000000 in
set_option maxRecDepth 100000 in
theorem cM_rounds (l : Launch) (dC : Nat → ClassId) (dI : Nat → Nat → Nat) (h : Nat) (ad : Nat → Nat) (ca : Nat → ClassId) (sz : Nat) (tc cl : Int32) (tr : Int64) (g : Sg) (x1 : Int32) (x2 : Int32) (P : Sg → Prop) (hw : wM_rounds P tc cl tr g x1 x2) : Met l yX1_rounds wsX1_rounds ({ frames := 1, cells := 0, slots := 0, locals := 25 }) (va_Pc [.ref h, .int x1, .int x2] (fun U => U.heap.size = sz ∧ va_P (dC, dI) vwCl (ML h ad ca tc cl tr g) U.heap ∧ va_K (dC, dI) vwCl (MT ca) U ∧ va_D (fun _ => True) (ML h ad ca tc cl tr g))) (va_Qv (fun (u : Sg) => P u) (at_M1 dC dI (va_A (ML h ad ca tc cl tr g) sz) h ad ca tc cl tr) (va_A (ML h ad ca tc cl tr g) sz)) 0 0 (va_A (ML h ad ca tc cl tr g) sz) := by
  refine Met.ofW (cc := cX1_rounds) (maxL := 4) (ret := none) (by decide) rfl ?_
  intro p e s m args below meth c s₁ B0 hml hv
  obtain ⟨hargs, hsz, hP, hK, hD0⟩ := hv
  have hx := B0.exec
  have hb := B0.bytes
  have hr := B0.returns
  have hts := atoms_spec (ws := wsX1_rounds) B0.pre
  have hown : s.vm.findClass RX1 = some m.cls := findClass_of_methodNamed B0.named
  have hlocks := B0.notSynchronized
  have inw : ∀ w ∈ wsX10, w ∈ wsX1_rounds := fun w h => List.mem_cons_of_mem _ (List.mem_append_right _ h)
  have f7 : (Cond.fieldLink RX1 7 "FlipHeapsModel" "things" "I").before args s = true := hts _ (by decide +kernel)
  have f21 : (Cond.fieldLink RX1 21 "FlipHeapsModel" "word" "[I").before args s = true := hts _ (by decide +kernel)
  have f33 : (Cond.fieldLink RX1 33 "FlipHeapsModel" "said" "I").before args s = true := hts _ (by decide +kernel)
  subst hsz
  have hD := hD0.self (sz := s.heap.size)
  generalize hAe : va_A (ML h ad ca tc cl tr g) s.heap.size = A at hD ⊢
  have hA : ∀ q : Nat, s.heap.size ≤ q → A q := fun q h => by rw [← hAe]; exact Or.inr h
  clear hAe hD0
  have hS : va_S A s.heap s.heap [] := va_S.rf
  have lp_42 : ∀ (x1 : Int32), ∀ (n : Nat) (x3 : Int32) (g : Sg) (H : Heap) (locs : List Loc) (ls : Array Slot), Lp2 (wM_rounds_b42 P tc cl tr x1) n x3 g → va_P (dC, dI) vwCl (ML h ad ca tc cl tr g) H → va_D A (ML h ad ca tc cl tr g) → va_S A s.heap H locs → lv_has ls 4 [(0, .ref h), (1, .int x1), (3, .int x3)] → W p l e (headSpec wsX1_rounds ({ frames := 1, cells := 0, slots := 0, locals := 25 })).room s m args below meth c H locs 0 0 (MQ below (va_Qv (fun (u : Sg) => P u) (at_M1 dC dI A h ad ca tc cl tr) A) args s 0 0 A) (F0 m 42 ls []) := by
    intro x1
    intro n
    induction n with
    | zero => intro x3 g H locs ls hw; exact False.elim hw
    | succ n hB =>
      intro x3 g H locs ls hw hP hD hS hl
      replace hw : wM_rounds_b42 P tc cl tr x1 (Lp2 (wM_rounds_b42 P tc cl tr x1) n) x3 g := hw
      unfold wM_rounds_b42 at hw
      refine lv_iload_n hx hb dX1_rounds_42 rfl (lv_at hl 2 rfl) ?_
      refine lv_if_lt (tgt := 58) hx hb dX1_rounds_43 (by decide) (fun hc => ?_) (fun hc => ?_)
      · replace hw := hw.1 hc
        clear hc
        exact W.vret hx hb hr (fun t ht hW => ⟨⟨g, rfl, hw, by rw [ht]; exact hP, va_K.moved hW.alike hK, hD⟩, hS.F ht⟩) hS.2.2 dX1_rounds_58
      · replace hw := hw.2 hc
        clear hc
        refine lv_aload_n hx hb dX1_rounds_46 rfl (lv_at hl 0 rfl) ?_
        refine lv_iload_n hx hb dX1_rounds_47 rfl (lv_at hl 1 rfl) ?_
        refine lv_iload_n hx hb dX1_rounds_48 rfl (lv_at hl 2 rfl) ?_
        have hFc := va_free (wc := (ML h ad ca tc cl tr g)) hD hS hA [0, 1, 2, 3, 4, 5, 6] rfl
        refine va_callv (va_runV (As := [.int x1, .int x3]) (rest := []) ⟨hx, hb, hml, hown, hts⟩ (cM_bends l dC dI h ad ca H.size tc cl tr g x1 x3 _ hw) (cwV 2 hts gX1_rounds_X1_bends rfl rfl rfl (by decide +kernel) ⟨Nat.le_of_ble_eq_true rfl, Nat.le_of_ble_eq_true rfl⟩) ⟨fun a U g mk q => by obtain ⟨q0, q1, qP, qK, qD⟩ := q; exact ⟨q0, q1, qP, va_K.moved (u := U) (U := U.calling g mk a) (Vm.Alike.refl U.vm) qK, qD⟩, va_recv hK hP (ci := 1) (q0 := 0) rfl rfl, fun U hU hW => ⟨rfl, by rw [hU], by rw [hU]; exact hP, va_K.moved hW.alike hK, hD.weaken (fun _ _ _ _ => trivial)⟩⟩ rfl rfl hl.1 rfl (lv_room (Nat.le_of_ble_eq_true rfl)) dX1_rounds_49 ⟨Nat.zero_le _, Nat.zero_le _⟩) hS (fun q _ h => hFc q h) hFc (fun g_1 t H1 locs ht hvm hw hB hz1 hk1 hS => ?_)
        obtain ⟨hP1, hK1, hD1⟩ := hB
        rw [ht] at hP1
        have hP : va_P (dC, dI) vwCl (ML h ad ca tc cl tr g_1) H1 := hP1
        have hD : va_D A (ML h ad ca tc cl tr g_1) := hD1.weaken (fun _ _ _ h => hFc _ h)
        clear hP1 hK1 hD1 hFc hk1 hz1 hvm ht
        generalize H1 = H at hP hS ⊢
        try dsimp only at hw
        refine lv_iinc (v := (x3 + (-1))) (lv' := [(3, .int ((x3 + (-1)))), (0, .ref h), (1, .int x1)]) hx hb dX1_rounds_52 hl (k := 2) rfl rfl (by decide) rfl (fun ls hl => ?_)
        refine lv_goto (tgt := 42) hx hb dX1_rounds_55 (by decide) ?_
        exact hB (x3 + (-1)) g_1 H locs ls hw hP hD hS (lv_sub hl [1, 2, 0] rfl)
  have lp_7 : ∀ (x1 : Int32) (K32 : Sg → Prop) (hK32 : ∀ (g : Sg) (H : Heap) (locs : List Loc) (ls : Array Slot), K32 g → va_P (dC, dI) vwCl (ML h ad ca tc cl tr g) H → va_D A (ML h ad ca tc cl tr g) → va_S A s.heap H locs → lv_has ls 4 [(0, .ref h)] → W p l e (headSpec wsX1_rounds ({ frames := 1, cells := 0, slots := 0, locals := 25 })).room s m args below meth c H locs 0 0 (MQ below (va_Qv (fun (u : Sg) => P u) (at_M1 dC dI A h ad ca tc cl tr) A) args s 0 0 A) (F0 m 32 ls [])), ∀ (n : Nat) (x3 : Int32) (g : Sg) (H : Heap) (locs : List Loc) (ls : Array Slot), Lp2 (wM_rounds_b7 P tc cl tr x1 K32) n x3 g → va_P (dC, dI) vwCl (ML h ad ca tc cl tr g) H → va_D A (ML h ad ca tc cl tr g) → va_S A s.heap H locs → lv_has ls 4 [(0, .ref h), (1, .int x1), (3, .int x3)] → W p l e (headSpec wsX1_rounds ({ frames := 1, cells := 0, slots := 0, locals := 25 })).room s m args below meth c H locs 0 0 (MQ below (va_Qv (fun (u : Sg) => P u) (at_M1 dC dI A h ad ca tc cl tr) A) args s 0 0 A) (F0 m 7 ls []) := by
    intro x1 K32 hK32
    intro n
    induction n with
    | zero => intro x3 g H locs ls hw; exact False.elim hw
    | succ n hB =>
      intro x3 g H locs ls hw hP hD hS hl
      replace hw : wM_rounds_b7 P tc cl tr x1 K32 (Lp2 (wM_rounds_b7 P tc cl tr x1 K32) n) x3 g := hw
      unfold wM_rounds_b7 at hw
      refine lv_iload_n hx hb dX1_rounds_7 rfl (lv_at hl 2 rfl) ?_
      refine lv_aload_n hx hb dX1_rounds_8 rfl (lv_at hl 0 rfl) ?_
      refine va_get (D := (dC, dI)) (ci := 1) (C := RX1) (T := TX1) (N := 9) hx hb hts inw hown hK hP 0 rfl rfl 4 (by decide) f33 (fun _ h9 => h9) rfl dX1_rounds_9 ?_
      refine lv_icmp_ge (tgt := 32) hx hb dX1_rounds_12 (by decide) (fun hc => ?_) (fun hc => ?_)
      · replace hw := hw.1 hc
        clear hc
        exact hK32 g H locs ls hw hP hD hS (lv_sub hl [0] rfl)
      · replace hw := hw.2 hc
        clear hc
        refine lv_aload_n hx hb dX1_rounds_15 rfl (lv_at hl 0 rfl) ?_
        refine lv_iload_n hx hb dX1_rounds_16 rfl (lv_at hl 1 rfl) ?_
        refine lv_aload_n hx hb dX1_rounds_17 rfl (lv_at hl 0 rfl) ?_
        refine va_get (D := (dC, dI)) (ci := 1) (C := RX1) (T := TX1) (N := 9) hx hb hts inw hown hK hP 0 rfl rfl 3 (by decide) f21 (fun _ h9 => h9) rfl dX1_rounds_18 ?_
        refine lv_iload_n hx hb dX1_rounds_21 rfl (lv_at hl 2 rfl) ?_
        obtain ⟨hin, hw⟩ := hw
        refine va_iald hx hb hK hP 3 2 rfl rfl hin dX1_rounds_22 ?_
        have hFc := va_free (wc := (ML h ad ca tc cl tr g)) hD hS hA [0, 1, 2, 3, 4, 5, 6] rfl
        refine va_callv (va_runV (As := [.int x1, .int ((g 3 (x3).toNatClampNeg))]) (rest := []) ⟨hx, hb, hml, hown, hts⟩ (cM_bends l dC dI h ad ca H.size tc cl tr g x1 (g 3 (x3).toNatClampNeg) _ hw) (cwV 2 hts gX1_rounds_X1_bends rfl rfl rfl (by decide +kernel) ⟨Nat.le_of_ble_eq_true rfl, Nat.le_of_ble_eq_true rfl⟩) ⟨fun a U g mk q => by obtain ⟨q0, q1, qP, qK, qD⟩ := q; exact ⟨q0, q1, qP, va_K.moved (u := U) (U := U.calling g mk a) (Vm.Alike.refl U.vm) qK, qD⟩, va_recv hK hP (ci := 1) (q0 := 0) rfl rfl, fun U hU hW => ⟨rfl, by rw [hU], by rw [hU]; exact hP, va_K.moved hW.alike hK, hD.weaken (fun _ _ _ _ => trivial)⟩⟩ rfl rfl hl.1 rfl (lv_room (Nat.le_of_ble_eq_true rfl)) dX1_rounds_23 ⟨Nat.zero_le _, Nat.zero_le _⟩) hS (fun q _ h => hFc q h) hFc (fun g_2 t H1 locs ht hvm hw hB hz1 hk1 hS => ?_)
        obtain ⟨hP1, hK1, hD1⟩ := hB
        rw [ht] at hP1
        have hP : va_P (dC, dI) vwCl (ML h ad ca tc cl tr g_2) H1 := hP1
        have hD : va_D A (ML h ad ca tc cl tr g_2) := hD1.weaken (fun _ _ _ h => hFc _ h)
        clear hP1 hK1 hD1 hFc hk1 hz1 hvm ht
        generalize H1 = H at hP hS ⊢
        try dsimp only at hw
        refine lv_iinc (v := (x3 + 1)) (lv' := [(3, .int ((x3 + 1))), (0, .ref h), (1, .int x1)]) hx hb dX1_rounds_26 hl (k := 2) rfl rfl (by decide) rfl (fun ls hl => ?_)
        refine lv_goto (tgt := 7) hx hb dX1_rounds_29 (by decide) ?_
        exact hB (x3 + 1) g_2 H locs ls hw hP hD hS (lv_sub hl [1, 2, 0] rfl)
  subst hargs
  unfold wM_rounds at hw
  have hl := lv_entry ([.ref h, .int x1, .int x2]) (n := 4) (Nat.le_of_ble_eq_true rfl)
  rw [lg_entry_eq]
  generalize (lg_sl ([.ref h, .int x1, .int x2]) ++ List.replicate (4 - (lg_sl ([.ref h, .int x1, .int x2])).length) Slot.unset).toArray = ls at hl ⊢
  have hl : lv_has ls 4 [(0, .ref h), (1, .int x1), (2, .int x2)] := hl
  obtain ⟨H, hHe⟩ : ∃ z : Heap, z = s.heap := ⟨_, rfl⟩
  obtain ⟨locs, hLe⟩ : ∃ z : List Loc, z = [] := ⟨_, rfl⟩
  have hS : va_S A s.heap H locs := by rw [hHe, hLe]; exact hS
  have hP : va_P (dC, dI) vwCl (ML h ad ca tc cl tr g) H := by rw [hHe]; exact hP
  have hgo : W p l e (headSpec wsX1_rounds ({ frames := 1, cells := 0, slots := 0, locals := 25 })).room s m ([.ref h, .int x1, .int x2] : List Value).toArray below meth c H locs 0 0 (MQ below (va_Qv (fun (u : Sg) => P u) (at_M1 dC dI A h ad ca tc cl tr) A) ([.ref h, .int x1, .int x2] : List Value).toArray s 0 0 A) (F0 m 0 ls []) := by
    clear hHe hLe
    refine lv_iload_n hx hb dX1_rounds_0 rfl (lv_at hl 2 rfl) ?_
    refine lv_iconst (v := (1 : Int32)) hx hb dX1_rounds_1 (by decide) ?_
    refine lv_icmp_ne (tgt := 35) hx hb dX1_rounds_2 (by decide) (fun hc => ?_) (fun hc => ?_)
    · replace hw := hw.1 hc
      clear hc
      refine lv_aload_n hx hb dX1_rounds_35 rfl (lv_at hl 0 rfl) ?_
      refine va_get (D := (dC, dI)) (ci := 1) (C := RX1) (T := TX1) (N := 9) hx hb hts inw hown hK hP 0 rfl rfl 0 (by decide) f7 (fun _ h9 => h9) rfl dX1_rounds_36 ?_
      refine lv_iconst (v := (1 : Int32)) hx hb dX1_rounds_39 (by decide) ?_
      refine lv_isub hx hb dX1_rounds_40 ?_
      refine lv_topi (fun x3_3 hv => ?_)
      replace hw := hw x3_3 hv
      clear hv
      refine lv_istore_n (lv' := [(3, .int x3_3), (0, .ref h), (1, .int x1), (2, .int x2)]) hx hb dX1_rounds_41 rfl hl (by decide) rfl (fun ls hl => ?_)
      obtain ⟨n_4, hw⟩ := hw
      exact lp_42 x1 n_4 x3_3 g H locs ls hw hP hD hS (lv_sub hl [1, 2, 0] rfl)
    · replace hw := hw.2 hc
      clear hc
      refine lv_iconst (v := (0 : Int32)) hx hb dX1_rounds_5 (by decide) ?_
      refine lv_istore_n (lv' := [(3, .int (0 : Int32)), (0, .ref h), (1, .int x1), (2, .int x2)]) hx hb dX1_rounds_6 rfl hl (by decide) rfl (fun ls hl => ?_)
      obtain ⟨n_6, hw⟩ := hw
      refine lp_7 x1 _ ?_ n_6 (0 : Int32) g H locs ls hw hP hD hS (lv_sub hl [1, 2, 0] rfl)
      · intro g_5 H locs ls hw hP hD hS hl
        try dsimp only at hw
        refine lv_goto (tgt := 58) hx hb dX1_rounds_32 (by decide) ?_
        exact W.vret hx hb hr (fun t ht hW => ⟨⟨g_5, rfl, hw, by rw [ht]; exact hP, va_K.moved hW.alike hK, hD⟩, hS.F ht⟩) hS.2.2 dX1_rounds_58
  rw [hHe, hLe] at hgo
  exact hgo
-- X1_isHeight
set_option maxHeartbeats 4000000 in
set_option maxRecDepth 100000 in
theorem cM_isHeight (l : Launch) (x0 : Int32) (P : Int32 → Prop) (hw : wM_isHeight P x0) : Met l yX1_isHeight wsX1_isHeight ({ frames := 1, cells := 0, slots := 0, locals := 22 }) (va_Pc [.int x0] (fun _ => True)) (vp_Si P) 0 0 (fun _ => False) := by
  refine Met.ofW (cc := cX1_isHeight) (maxL := 1) (ret := (some .boolean)) (by decide) rfl ?_
  intro p e s m args below meth c s₁ B0 hml hv
  obtain ⟨hargs, -⟩ := hv
  have hx := B0.exec
  have hb := B0.bytes
  have hr := B0.returns
  have hts := atoms_spec (ws := wsX1_isHeight) B0.pre
  have hown : s.vm.findClass RX1 = some m.cls := findClass_of_methodNamed B0.named
  have hlocks := B0.notSynchronized
  subst hargs
  unfold wM_isHeight at hw
  have hl := lv_entry ([.int x0]) (n := 1) (Nat.le_of_ble_eq_true rfl)
  rw [lg_entry_eq]
  generalize (lg_sl ([.int x0]) ++ List.replicate (1 - (lg_sl ([.int x0])).length) Slot.unset).toArray = ls at hl ⊢
  have hl : lv_has ls 1 [(0, .int x0)] := hl
  refine lv_iload_n hx hb dX1_isHeight_0 rfl (lv_at hl 0 rfl) ?_
  refine lv_iconst (v := (1 : Int32)) hx hb dX1_isHeight_1 (by decide) ?_
  refine lv_iconst (v := (3 : Int32)) hx hb dX1_isHeight_2 (by decide) ?_
  refine vp_callSi (W.runS (As := [.int x0, .int (1 : Int32), .int (3 : Int32)]) (rest := []) ⟨hx, hb, hml, hown, hts⟩ (cM_in l x0 (1 : Int32) (3 : Int32) _ hw) (va_cwS 3 hts gX1_isHeight_X1_in rfl rfl rfl (by decide +kernel) ⟨Nat.le_of_ble_eq_true rfl, Nat.le_of_ble_eq_true rfl⟩) ⟨fun a U g mk q => q, fun U hU hW => ⟨rfl, trivial⟩⟩ rfl rfl hl.1 rfl (lv_room (Nat.le_of_ble_eq_true rfl)) dX1_isHeight_3 ⟨Nat.zero_le _, Nat.zero_le _⟩) (fun r_1 hw => ?_)
  try dsimp only at hw
  obtain ⟨hisb, hw⟩ := hw
  exact W.zret (v := r_1) hx hb hr (isB_nar hisb) (fun t ht hW => ⟨_, rfl, hw, ht⟩) (fun q h => absurd h List.not_mem_nil) dX1_isHeight_6
-- X1_fillings
set_option maxHeartbeats 4000000 in
set_option maxRecDepth 100000 in
theorem cM_fillings (l : Launch) (dC : Nat → ClassId) (dI : Nat → Nat → Nat) (h : Nat) (ad : Nat → Nat) (ca : Nat → ClassId) (sz : Nat) (tc cl : Int32) (tr : Int64) (g : Sg) (x1 : Int32) (P : Int32 → Sg → Prop) (hw : wM_fillings P tc cl tr g x1) : Met l yX1_fillings wsX1_fillings ({ frames := 2, cells := 0, slots := 0, locals := 42 }) (va_Pc [.ref h, .int x1] (fun U => U.heap.size = sz ∧ va_P (dC, dI) vwCl (ML h ad ca tc cl tr g) U.heap ∧ va_K (dC, dI) vwCl (MT ca) U ∧ va_D (fun _ => True) (ML h ad ca tc cl tr g))) (va_Qi (fun (r : Int32) (u : Sg) => P r u) (at_M1 dC dI (va_A (ML h ad ca tc cl tr g) sz) h ad ca tc cl tr) (va_A (ML h ad ca tc cl tr g) sz)) 0 0 (va_A (ML h ad ca tc cl tr g) sz) := by
  refine Met.ofW (cc := cX1_fillings) (maxL := 5) (ret := (some .int)) (by decide) rfl ?_
  intro p e s m args below meth c s₁ B0 hml hv
  obtain ⟨hargs, hsz, hP, hK, hD0⟩ := hv
  have hx := B0.exec
  have hb := B0.bytes
  have hr := B0.returns
  have hts := atoms_spec (ws := wsX1_fillings) B0.pre
  have hown : s.vm.findClass RX1 = some m.cls := findClass_of_methodNamed B0.named
  have hlocks := B0.notSynchronized
  have inw : ∀ w ∈ wsX10, w ∈ wsX1_fillings := fun w h => List.mem_cons_of_mem _ (List.mem_append_right _ h)
  have f7 : (Cond.fieldLink RX1 7 "FlipHeapsModel" "things" "I").before args s = true := hts _ (by decide +kernel)
  subst hsz
  have hD := hD0.self (sz := s.heap.size)
  generalize hAe : va_A (ML h ad ca tc cl tr g) s.heap.size = A at hD ⊢
  have hA : ∀ q : Nat, s.heap.size ≤ q → A q := fun q h => by rw [← hAe]; exact Or.inr h
  clear hAe hD0
  have hS : va_S A s.heap s.heap [] := va_S.rf
  have lp_13 : ∀ (x1 : Int32) (K33 : Int32 → Sg → Prop) (hK33 : ∀ (x2 : Int32) (g : Sg) (H : Heap) (locs : List Loc) (ls : Array Slot), K33 x2 g → va_P (dC, dI) vwCl (ML h ad ca tc cl tr g) H → va_D A (ML h ad ca tc cl tr g) → va_S A s.heap H locs → lv_has ls 5 [(0, .ref h), (1, .int x1), (2, .int x2)] → W p l e (headSpec wsX1_fillings ({ frames := 2, cells := 0, slots := 0, locals := 42 })).room s m args below meth c H locs 0 0 (MQ below (va_Qi (fun (r : Int32) (u : Sg) => P r u) (at_M1 dC dI A h ad ca tc cl tr) A) args s 0 0 A) (F0 m 33 ls [])), ∀ (n : Nat) (x2 : Int32) (x3 : Int32) (g : Sg) (H : Heap) (locs : List Loc) (ls : Array Slot), Lp3 (wM_fillings_b13 P tc cl tr x1 K33) n x2 x3 g → va_P (dC, dI) vwCl (ML h ad ca tc cl tr g) H → va_D A (ML h ad ca tc cl tr g) → va_S A s.heap H locs → lv_has ls 5 [(0, .ref h), (1, .int x1), (2, .int x2), (3, .int x3)] → W p l e (headSpec wsX1_fillings ({ frames := 2, cells := 0, slots := 0, locals := 42 })).room s m args below meth c H locs 0 0 (MQ below (va_Qi (fun (r : Int32) (u : Sg) => P r u) (at_M1 dC dI A h ad ca tc cl tr) A) args s 0 0 A) (F0 m 13 ls []) := by
    intro x1 K33 hK33
    intro n
    induction n with
    | zero => intro x2 x3 g H locs ls hw; exact False.elim hw
    | succ n hB =>
      intro x2 x3 g H locs ls hw hP hD hS hl
      replace hw : wM_fillings_b13 P tc cl tr x1 K33 (Lp3 (wM_fillings_b13 P tc cl tr x1 K33) n) x2 x3 g := hw
      unfold wM_fillings_b13 at hw
      refine lv_iload_n hx hb dX1_fillings_13 rfl (lv_at hl 3 rfl) ?_
      refine lv_aload_n hx hb dX1_fillings_14 rfl (lv_at hl 0 rfl) ?_
      refine va_get (D := (dC, dI)) (ci := 1) (C := RX1) (T := TX1) (N := 9) hx hb hts inw hown hK hP 0 rfl rfl 0 (by decide) f7 (fun _ h9 => h9) rfl dX1_fillings_15 ?_
      refine lv_icmp_ge (tgt := 33) hx hb dX1_fillings_18 (by decide) (fun hc => ?_) (fun hc => ?_)
      · replace hw := hw.1 hc
        clear hc
        exact hK33 x2 g H locs ls hw hP hD hS (lv_sub hl [0, 1, 2] rfl)
      · replace hw := hw.2 hc
        clear hc
        refine lv_iload_n hx hb dX1_fillings_21 rfl (lv_at hl 2 rfl) ?_
        refine lv_iload_n hx hb dX1_fillings_22 rfl (lv_at hl 1 rfl) ?_
        refine lv_iconst (v := (1 : Int32)) hx hb dX1_fillings_23 (by decide) ?_
        refine lv_iadd hx hb dX1_fillings_24 ?_
        refine lv_imul hx hb dX1_fillings_25 ?_
        refine lv_topi (fun x2_1 hv => ?_)
        replace hw := hw x2_1 hv
        clear hv
        refine lv_istore_n (lv' := [(2, .int x2_1), (0, .ref h), (1, .int x1), (3, .int x3)]) hx hb dX1_fillings_26 rfl hl (by decide) rfl (fun ls hl => ?_)
        refine lv_iinc (v := (x3 + 1)) (lv' := [(3, .int ((x3 + 1))), (2, .int x2_1), (0, .ref h), (1, .int x1)]) hx hb dX1_fillings_27 hl (k := 3) rfl rfl (by decide) rfl (fun ls hl => ?_)
        refine lv_goto (tgt := 13) hx hb dX1_fillings_30 (by decide) ?_
        exact hB x2_1 (x3 + 1) g H locs ls hw hP hD hS (lv_sub hl [2, 3, 1, 0] rfl)
  have jn_60 : ∀ (B : Int32 → Int32 → Sg → Prop) (x1 : Int32) (x2 : Int32) (x4 : Int32) (y0 : Int32) (y1 : Int32) (g : Sg) (hB : ∀ (x3 : Int32) (x4 : Int32) (g : Sg) (H : Heap) (locs : List Loc) (ls : Array Slot), B x3 x4 g → va_P (dC, dI) vwCl (ML h ad ca tc cl tr g) H → va_D A (ML h ad ca tc cl tr g) → va_S A s.heap H locs → lv_has ls 5 [(0, .ref h), (1, .int x1), (2, .int x2), (3, .int x3), (4, .int x4)] → W p l e (headSpec wsX1_fillings ({ frames := 2, cells := 0, slots := 0, locals := 42 })).room s m args below meth c H locs 0 0 (MQ below (va_Qi (fun (r : Int32) (u : Sg) => P r u) (at_M1 dC dI A h ad ca tc cl tr) A) args s 0 0 A) (F0 m 38 ls [])) (H : Heap) (locs : List Loc) (ls : Array Slot), wM_fillings_j60 P tc cl tr B x1 x2 x4 y0 y1 g → va_P (dC, dI) vwCl (ML h ad ca tc cl tr g) H → va_D A (ML h ad ca tc cl tr g) → va_S A s.heap H locs → lv_has ls 5 [(0, .ref h), (1, .int x1), (2, .int x2), (4, .int x4)] → W p l e (headSpec wsX1_fillings ({ frames := 2, cells := 0, slots := 0, locals := 42 })).room s m args below meth c H locs 0 0 (MQ below (va_Qi (fun (r : Int32) (u : Sg) => P r u) (at_M1 dC dI A h ad ca tc cl tr) A) args s 0 0 A) (F0 m 60 ls [.int y1, .int y0]) := by
    intro B x1 x2 x4 y0 y1 g hB H locs ls hw hP hD hS hl
    unfold wM_fillings_j60 at hw
    refine lv_iadd hx hb dX1_fillings_60 ?_
    refine lv_topi (fun x3_2 hv => ?_)
    replace hw := hw x3_2 hv
    clear hv
    refine lv_istore_n (lv' := [(3, .int x3_2), (0, .ref h), (1, .int x1), (2, .int x2), (4, .int x4)]) hx hb dX1_fillings_61 rfl hl (by decide) rfl (fun ls hl => ?_)
    refine lv_iinc (v := (x4 + 1)) (lv' := [(4, .int ((x4 + 1))), (3, .int x3_2), (0, .ref h), (1, .int x1), (2, .int x2)]) hx hb dX1_fillings_62 hl (k := 4) rfl rfl (by decide) rfl (fun ls hl => ?_)
    refine lv_goto (tgt := 38) hx hb dX1_fillings_65 (by decide) ?_
    exact hB x3_2 (x4 + 1) g H locs ls hw hP hD hS (lv_sub hl [2, 3, 4, 1, 0] rfl)
  have lp_38 : ∀ (x1 : Int32) (x2 : Int32), ∀ (n : Nat) (x3 : Int32) (x4 : Int32) (g : Sg) (H : Heap) (locs : List Loc) (ls : Array Slot), Lp3 (wM_fillings_b38 P tc cl tr x1 x2) n x3 x4 g → va_P (dC, dI) vwCl (ML h ad ca tc cl tr g) H → va_D A (ML h ad ca tc cl tr g) → va_S A s.heap H locs → lv_has ls 5 [(0, .ref h), (1, .int x1), (2, .int x2), (3, .int x3), (4, .int x4)] → W p l e (headSpec wsX1_fillings ({ frames := 2, cells := 0, slots := 0, locals := 42 })).room s m args below meth c H locs 0 0 (MQ below (va_Qi (fun (r : Int32) (u : Sg) => P r u) (at_M1 dC dI A h ad ca tc cl tr) A) args s 0 0 A) (F0 m 38 ls []) := by
    intro x1 x2
    intro n
    induction n with
    | zero => intro x3 x4 g H locs ls hw; exact False.elim hw
    | succ n hB =>
      intro x3 x4 g H locs ls hw hP hD hS hl
      replace hw : wM_fillings_b38 P tc cl tr x1 x2 (Lp3 (wM_fillings_b38 P tc cl tr x1 x2) n) x3 x4 g := hw
      unfold wM_fillings_b38 at hw
      refine lv_iload hx hb dX1_fillings_38 (lv_at hl 4 rfl) ?_
      refine lv_iload_n hx hb dX1_fillings_40 rfl (lv_at hl 2 rfl) ?_
      refine lv_icmp_ge (tgt := 68) hx hb dX1_fillings_41 (by decide) (fun hc => ?_) (fun hc => ?_)
      · replace hw := hw.1 hc
        clear hc
        refine lv_iload_n hx hb dX1_fillings_68 rfl (lv_at hl 3 rfl) ?_
        exact W.iret (v := x3) hx hb hr (fun t ht hW => ⟨⟨x3, g, rfl, hw, by rw [ht]; exact hP, va_K.moved hW.alike hK, hD⟩, hS.F ht⟩) hS.2.2 dX1_fillings_69
      · replace hw := hw.2 hc
        clear hc
        refine lv_iload_n hx hb dX1_fillings_44 rfl (lv_at hl 3 rfl) ?_
        refine lv_aload_n hx hb dX1_fillings_45 rfl (lv_at hl 0 rfl) ?_
        refine lv_iload_n hx hb dX1_fillings_46 rfl (lv_at hl 1 rfl) ?_
        refine lv_iload hx hb dX1_fillings_47 (lv_at hl 4 rfl) ?_
        have hFc := va_free (wc := (ML h ad ca tc cl tr g)) hD hS hA [0, 1, 2, 3, 4, 5, 6] rfl
        refine va_calli (va_runV (As := [.int x1, .int x4]) (rest := [.int x3]) ⟨hx, hb, hml, hown, hts⟩ (cM_take l dC dI h ad ca H.size tc cl tr g x1 x4 _ hw) (cwV 2 hts gX1_fillings_X1_take rfl rfl rfl (by decide +kernel) ⟨Nat.le_of_ble_eq_true rfl, Nat.le_of_ble_eq_true rfl⟩) ⟨fun a U g mk q => by obtain ⟨q0, q1, qP, qK, qD⟩ := q; exact ⟨q0, q1, qP, va_K.moved (u := U) (U := U.calling g mk a) (Vm.Alike.refl U.vm) qK, qD⟩, va_recv hK hP (ci := 1) (q0 := 0) rfl rfl, fun U hU hW => ⟨rfl, by rw [hU], by rw [hU]; exact hP, va_K.moved hW.alike hK, hD.weaken (fun _ _ _ _ => trivial)⟩⟩ rfl rfl hl.1 rfl (lv_room (Nat.le_of_ble_eq_true rfl)) dX1_fillings_49 ⟨Nat.zero_le _, Nat.zero_le _⟩) hS (fun q _ h => hFc q h) hFc (fun r_3 g_4 t H1 locs ht hvm hw hB hz1 hk1 hS => ?_)
        obtain ⟨hP1, hK1, hD1⟩ := hB
        rw [ht] at hP1
        have hP : va_P (dC, dI) vwCl (ML h ad ca tc cl tr g_4) H1 := hP1
        have hD : va_D A (ML h ad ca tc cl tr g_4) := hD1.weaken (fun _ _ _ h => hFc _ h)
        clear hP1 hK1 hD1 hFc hk1 hz1 hvm ht
        generalize H1 = H at hP hS ⊢
        try dsimp only at hw
        refine lv_if_eq (tgt := 59) hx hb dX1_fillings_52 (by decide) (fun hc => ?_) (fun hc => ?_)
        · replace hw := hw.1 hc
          clear hc
          refine lv_iconst (v := (0 : Int32)) hx hb dX1_fillings_59 (by decide) ?_
          exact jn_60 _ x1 x2 x4 x3 (0 : Int32) g_4 hB H locs ls hw hP hD hS (lv_sub hl [0, 1, 2, 4] rfl)
        · replace hw := hw.2 hc
          clear hc
          refine lv_iconst (v := (1 : Int32)) hx hb dX1_fillings_55 (by decide) ?_
          refine lv_goto (tgt := 60) hx hb dX1_fillings_56 (by decide) ?_
          exact jn_60 _ x1 x2 x4 x3 (1 : Int32) g_4 hB H locs ls hw hP hD hS (lv_sub hl [0, 1, 2, 4] rfl)
  subst hargs
  unfold wM_fillings at hw
  have hl := lv_entry ([.ref h, .int x1]) (n := 5) (Nat.le_of_ble_eq_true rfl)
  rw [lg_entry_eq]
  generalize (lg_sl ([.ref h, .int x1]) ++ List.replicate (5 - (lg_sl ([.ref h, .int x1])).length) Slot.unset).toArray = ls at hl ⊢
  have hl : lv_has ls 5 [(0, .ref h), (1, .int x1)] := hl
  obtain ⟨H, hHe⟩ : ∃ z : Heap, z = s.heap := ⟨_, rfl⟩
  obtain ⟨locs, hLe⟩ : ∃ z : List Loc, z = [] := ⟨_, rfl⟩
  have hS : va_S A s.heap H locs := by rw [hHe, hLe]; exact hS
  have hP : va_P (dC, dI) vwCl (ML h ad ca tc cl tr g) H := by rw [hHe]; exact hP
  have hgo : W p l e (headSpec wsX1_fillings ({ frames := 2, cells := 0, slots := 0, locals := 42 })).room s m ([.ref h, .int x1] : List Value).toArray below meth c H locs 0 0 (MQ below (va_Qi (fun (r : Int32) (u : Sg) => P r u) (at_M1 dC dI A h ad ca tc cl tr) A) ([.ref h, .int x1] : List Value).toArray s 0 0 A) (F0 m 0 ls []) := by
    clear hHe hLe
    refine lv_iload_n hx hb dX1_fillings_0 rfl (lv_at hl 1 rfl) ?_
    refine vp_callSi (W.runS (As := [.int x1]) (rest := []) ⟨hx, hb, hml, hown, hts⟩ (cM_isHeight l x1 _ hw) (va_cwS 1 hts gX1_fillings_X1_isHeight rfl rfl rfl (by decide +kernel) ⟨Nat.le_of_ble_eq_true rfl, Nat.le_of_ble_eq_true rfl⟩) ⟨fun a U g mk q => q, fun U hU hW => ⟨rfl, trivial⟩⟩ rfl rfl hl.1 rfl (lv_room (Nat.le_of_ble_eq_true rfl)) dX1_fillings_1 ⟨Nat.zero_le _, Nat.zero_le _⟩) (fun r_5 hw => ?_)
    try dsimp only at hw
    refine lv_if_ne (tgt := 9) hx hb dX1_fillings_4 (by decide) (fun hc => ?_) (fun hc => ?_)
    · replace hw := hw.1 hc
      clear hc
      refine lv_iconst (v := (1 : Int32)) hx hb dX1_fillings_9 (by decide) ?_
      refine lv_istore_n (lv' := [(2, .int (1 : Int32)), (0, .ref h), (1, .int x1)]) hx hb dX1_fillings_10 rfl hl (by decide) rfl (fun ls hl => ?_)
      refine lv_iconst (v := (0 : Int32)) hx hb dX1_fillings_11 (by decide) ?_
      refine lv_istore_n (lv' := [(3, .int (0 : Int32)), (2, .int (1 : Int32)), (0, .ref h), (1, .int x1)]) hx hb dX1_fillings_12 rfl hl (by decide) rfl (fun ls hl => ?_)
      obtain ⟨n_9, hw⟩ := hw
      refine lp_13 x1 _ ?_ n_9 (1 : Int32) (0 : Int32) g H locs ls hw hP hD hS (lv_sub hl [2, 3, 1, 0] rfl)
      · intro x2_6 g_7 H locs ls hw hP hD hS hl
        try dsimp only at hw
        refine lv_iconst (v := (0 : Int32)) hx hb dX1_fillings_33 (by decide) ?_
        refine lv_istore_n (lv' := [(3, .int (0 : Int32)), (0, .ref h), (1, .int x1), (2, .int x2_6)]) hx hb dX1_fillings_34 rfl hl (by decide) rfl (fun ls hl => ?_)
        refine lv_iconst (v := (0 : Int32)) hx hb dX1_fillings_35 (by decide) ?_
        refine lv_istore (lv' := [(4, .int (0 : Int32)), (3, .int (0 : Int32)), (0, .ref h), (1, .int x1), (2, .int x2_6)]) hx hb dX1_fillings_36 hl (by decide) rfl (fun ls hl => ?_)
        obtain ⟨n_8, hw⟩ := hw
        exact lp_38 x1 x2_6 n_8 (0 : Int32) (0 : Int32) g_7 H locs ls hw hP hD hS (lv_sub hl [2, 3, 4, 1, 0] rfl)
    · replace hw := hw.2 hc
      clear hc
      refine lv_iconst (v := (-1 : Int32)) hx hb dX1_fillings_7 (by decide) ?_
      exact W.iret (v := (-1 : Int32)) hx hb hr (fun t ht hW => ⟨⟨(-1 : Int32), g, rfl, hw, by rw [ht]; exact hP, va_K.moved hW.alike hK, hD⟩, hS.F ht⟩) hS.2.2 dX1_fillings_8
  rw [hHe, hLe] at hgo
  exact hgo
-- X1_bend
set_option maxHeartbeats 4000000 in
set_option maxRecDepth 100000 in
theorem cM_bend (l : Launch) (dC : Nat → ClassId) (dI : Nat → Nat → Nat) (h : Nat) (ad : Nat → Nat) (ca : Nat → ClassId) (sz : Nat) (tc cl : Int32) (tr : Int64) (g : Sg) (x1 : Int32) (x2 : Int32) (x3 : Int32) (P : Int32 → Sg → Prop) (hw : wM_bend P tc cl tr g x1 x2 x3) : Met l yX1_bend wsX1_bend ({ frames := 2, cells := 0, slots := 0, locals := 43 }) (va_Pc [.ref h, .int x1, .int x2, .int x3] (fun U => U.heap.size = sz ∧ va_P (dC, dI) vwCl (ML h ad ca tc cl tr g) U.heap ∧ va_K (dC, dI) vwCl (MT ca) U ∧ va_D (fun _ => True) (ML h ad ca tc cl tr g))) (va_Qi (fun (r : Int32) (u : Sg) => P r u) (at_M1 dC dI (va_A (ML h ad ca tc cl tr g) sz) h ad ca tc cl tr) (va_A (ML h ad ca tc cl tr g) sz)) 0 0 (va_A (ML h ad ca tc cl tr g) sz) := by
  refine Met.ofW (cc := cX1_bend) (maxL := 4) (ret := (some .int)) (by decide) rfl ?_
  intro p e s m args below meth c s₁ B0 hml hv
  obtain ⟨hargs, hsz, hP, hK, hD0⟩ := hv
  have hx := B0.exec
  have hb := B0.bytes
  have hr := B0.returns
  have hts := atoms_spec (ws := wsX1_bend) B0.pre
  have hown : s.vm.findClass RX1 = some m.cls := findClass_of_methodNamed B0.named
  have hlocks := B0.notSynchronized
  have inw : ∀ w ∈ wsX10, w ∈ wsX1_bend := fun w h => List.mem_cons_of_mem _ (List.mem_append_right _ h)
  subst hsz
  have hD := hD0.self (sz := s.heap.size)
  generalize hAe : va_A (ML h ad ca tc cl tr g) s.heap.size = A at hD ⊢
  have hA : ∀ q : Nat, s.heap.size ≤ q → A q := fun q h => by rw [← hAe]; exact Or.inr h
  clear hAe hD0
  have hS : va_S A s.heap s.heap [] := va_S.rf
  subst hargs
  unfold wM_bend at hw
  have hl := lv_entry ([.ref h, .int x1, .int x2, .int x3]) (n := 4) (Nat.le_of_ble_eq_true rfl)
  rw [lg_entry_eq]
  generalize (lg_sl ([.ref h, .int x1, .int x2, .int x3]) ++ List.replicate (4 - (lg_sl ([.ref h, .int x1, .int x2, .int x3])).length) Slot.unset).toArray = ls at hl ⊢
  have hl : lv_has ls 4 [(0, .ref h), (1, .int x1), (2, .int x2), (3, .int x3)] := hl
  obtain ⟨H, hHe⟩ : ∃ z : Heap, z = s.heap := ⟨_, rfl⟩
  obtain ⟨locs, hLe⟩ : ∃ z : List Loc, z = [] := ⟨_, rfl⟩
  have hS : va_S A s.heap H locs := by rw [hHe, hLe]; exact hS
  have hP : va_P (dC, dI) vwCl (ML h ad ca tc cl tr g) H := by rw [hHe]; exact hP
  have hgo : W p l e (headSpec wsX1_bend ({ frames := 2, cells := 0, slots := 0, locals := 43 })).room s m ([.ref h, .int x1, .int x2, .int x3] : List Value).toArray below meth c H locs 0 0 (MQ below (va_Qi (fun (r : Int32) (u : Sg) => P r u) (at_M1 dC dI A h ad ca tc cl tr) A) ([.ref h, .int x1, .int x2, .int x3] : List Value).toArray s 0 0 A) (F0 m 0 ls []) := by
    clear hHe hLe
    refine lv_iload_n hx hb dX1_bend_0 rfl (lv_at hl 1 rfl) ?_
    refine vp_callSi (W.runS (As := [.int x1]) (rest := []) ⟨hx, hb, hml, hown, hts⟩ (cM_isHeight l x1 _ hw) (va_cwS 1 hts gX1_bend_X1_isHeight rfl rfl rfl (by decide +kernel) ⟨Nat.le_of_ble_eq_true rfl, Nat.le_of_ble_eq_true rfl⟩) ⟨fun a U g mk q => q, fun U hU hW => ⟨rfl, trivial⟩⟩ rfl rfl hl.1 rfl (lv_room (Nat.le_of_ble_eq_true rfl)) dX1_bend_1 ⟨Nat.zero_le _, Nat.zero_le _⟩) (fun r_1 hw => ?_)
    try dsimp only at hw
    refine lv_if_eq (tgt := 24) hx hb dX1_bend_4 (by decide) (fun hc => ?_) (fun hc => ?_)
    · replace hw := hw.1 hc
      clear hc
      refine lv_iconst (v := (-1 : Int32)) hx hb dX1_bend_24 (by decide) ?_
      exact W.iret (v := (-1 : Int32)) hx hb hr (fun t ht hW => ⟨⟨(-1 : Int32), g, rfl, hw, by rw [ht]; exact hP, va_K.moved hW.alike hK, hD⟩, hS.F ht⟩) hS.2.2 dX1_bend_25
    · replace hw := hw.2 hc
      clear hc
      refine lv_aload_n hx hb dX1_bend_7 rfl (lv_at hl 0 rfl) ?_
      refine lv_iload_n hx hb dX1_bend_8 rfl (lv_at hl 3 rfl) ?_
      refine vp_callSi (W.runV (As := [.int x3]) (rest := []) ⟨hx, hb, hml, hown, hts⟩ (cM_isThing l dC dI h ad ca tc cl tr g x3 _ hw) (cwV 1 hts gX1_bend_X1_isThing rfl rfl rfl (by decide +kernel) ⟨Nat.le_of_ble_eq_true rfl, Nat.le_of_ble_eq_true rfl⟩) ⟨fun a U g mk q => by obtain ⟨q0, qP, qK⟩ := q; exact ⟨q0, qP, va_K.moved (u := U) (U := U.calling g mk a) (Vm.Alike.refl U.vm) qK⟩, va_recv hK hP (ci := 1) (q0 := 0) rfl rfl, fun U hU hW => ⟨rfl, by rw [hU]; exact hP, va_K.moved hW.alike hK⟩⟩ rfl rfl hl.1 rfl (lv_room (Nat.le_of_ble_eq_true rfl)) dX1_bend_9 ⟨Nat.zero_le _, Nat.zero_le _⟩) (fun r_2 hw => ?_)
      try dsimp only at hw
      refine lv_if_eq (tgt := 24) hx hb dX1_bend_12 (by decide) (fun hc => ?_) (fun hc => ?_)
      · replace hw := hw.1 hc
        clear hc
        refine lv_iconst (v := (-1 : Int32)) hx hb dX1_bend_24 (by decide) ?_
        exact W.iret (v := (-1 : Int32)) hx hb hr (fun t ht hW => ⟨⟨(-1 : Int32), g, rfl, hw, by rw [ht]; exact hP, va_K.moved hW.alike hK, hD⟩, hS.F ht⟩) hS.2.2 dX1_bend_25
      · replace hw := hw.2 hc
        clear hc
        refine lv_aload_n hx hb dX1_bend_15 rfl (lv_at hl 0 rfl) ?_
        refine lv_iload_n hx hb dX1_bend_16 rfl (lv_at hl 1 rfl) ?_
        refine lv_iload_n hx hb dX1_bend_17 rfl (lv_at hl 2 rfl) ?_
        have hFc := va_free (wc := (ML h ad ca tc cl tr g)) hD hS hA [0, 1, 2, 3, 4, 5, 6] rfl
        refine va_calli (va_runV (As := [.int x1, .int x2]) (rest := []) ⟨hx, hb, hml, hown, hts⟩ (cM_take l dC dI h ad ca H.size tc cl tr g x1 x2 _ hw) (cwV 2 hts gX1_bend_X1_take rfl rfl rfl (by decide +kernel) ⟨Nat.le_of_ble_eq_true rfl, Nat.le_of_ble_eq_true rfl⟩) ⟨fun a U g mk q => by obtain ⟨q0, q1, qP, qK, qD⟩ := q; exact ⟨q0, q1, qP, va_K.moved (u := U) (U := U.calling g mk a) (Vm.Alike.refl U.vm) qK, qD⟩, va_recv hK hP (ci := 1) (q0 := 0) rfl rfl, fun U hU hW => ⟨rfl, by rw [hU], by rw [hU]; exact hP, va_K.moved hW.alike hK, hD.weaken (fun _ _ _ _ => trivial)⟩⟩ rfl rfl hl.1 rfl (lv_room (Nat.le_of_ble_eq_true rfl)) dX1_bend_18 ⟨Nat.zero_le _, Nat.zero_le _⟩) hS (fun q _ h => hFc q h) hFc (fun r_3 g_4 t H1 locs ht hvm hw hB hz1 hk1 hS => ?_)
        obtain ⟨hP1, hK1, hD1⟩ := hB
        rw [ht] at hP1
        have hP : va_P (dC, dI) vwCl (ML h ad ca tc cl tr g_4) H1 := hP1
        have hD : va_D A (ML h ad ca tc cl tr g_4) := hD1.weaken (fun _ _ _ h => hFc _ h)
        clear hP1 hK1 hD1 hFc hk1 hz1 hvm ht
        generalize H1 = H at hP hS ⊢
        try dsimp only at hw
        refine lv_if_ne (tgt := 26) hx hb dX1_bend_21 (by decide) (fun hc => ?_) (fun hc => ?_)
        · replace hw := hw.1 hc
          clear hc
          refine lv_aload_n hx hb dX1_bend_26 rfl (lv_at hl 0 rfl) ?_
          refine lv_iload_n hx hb dX1_bend_27 rfl (lv_at hl 1 rfl) ?_
          refine lv_iload_n hx hb dX1_bend_28 rfl (lv_at hl 3 rfl) ?_
          have hFc := va_free (wc := (ML h ad ca tc cl tr g_4)) hD hS hA [0, 1, 2, 3, 4, 5, 6] rfl
          refine va_callv (va_runV (As := [.int x1, .int x3]) (rest := []) ⟨hx, hb, hml, hown, hts⟩ (cM_bends l dC dI h ad ca H.size tc cl tr g_4 x1 x3 _ hw) (cwV 2 hts gX1_bend_X1_bends rfl rfl rfl (by decide +kernel) ⟨Nat.le_of_ble_eq_true rfl, Nat.le_of_ble_eq_true rfl⟩) ⟨fun a U g mk q => by obtain ⟨q0, q1, qP, qK, qD⟩ := q; exact ⟨q0, q1, qP, va_K.moved (u := U) (U := U.calling g mk a) (Vm.Alike.refl U.vm) qK, qD⟩, va_recv hK hP (ci := 1) (q0 := 0) rfl rfl, fun U hU hW => ⟨rfl, by rw [hU], by rw [hU]; exact hP, va_K.moved hW.alike hK, hD.weaken (fun _ _ _ _ => trivial)⟩⟩ rfl rfl hl.1 rfl (lv_room (Nat.le_of_ble_eq_true rfl)) dX1_bend_29 ⟨Nat.zero_le _, Nat.zero_le _⟩) hS (fun q _ h => hFc q h) hFc (fun g_5 t H1 locs ht hvm hw hB hz1 hk1 hS => ?_)
          obtain ⟨hP1, hK1, hD1⟩ := hB
          rw [ht] at hP1
          have hP : va_P (dC, dI) vwCl (ML h ad ca tc cl tr g_5) H1 := hP1
          have hD : va_D A (ML h ad ca tc cl tr g_5) := hD1.weaken (fun _ _ _ h => hFc _ h)
          clear hP1 hK1 hD1 hFc hk1 hz1 hvm ht
          generalize H1 = H at hP hS ⊢
          try dsimp only at hw
          refine lv_aload_n hx hb dX1_bend_32 rfl (lv_at hl 0 rfl) ?_
          refine lv_iload_n hx hb dX1_bend_33 rfl (lv_at hl 1 rfl) ?_
          refine vp_callSi (W.runV (As := [.int x1]) (rest := []) ⟨hx, hb, hml, hown, hts⟩ (cM_number l dC dI h ad ca tc cl tr g_5 x1 _ hw) (cwV 1 hts gX1_bend_X1_number rfl rfl rfl (by decide +kernel) ⟨Nat.le_of_ble_eq_true rfl, Nat.le_of_ble_eq_true rfl⟩) ⟨fun a U g mk q => by obtain ⟨q0, qP, qK⟩ := q; exact ⟨q0, qP, va_K.moved (u := U) (U := U.calling g mk a) (Vm.Alike.refl U.vm) qK⟩, va_recv hK hP (ci := 1) (q0 := 0) rfl rfl, fun U hU hW => ⟨rfl, by rw [hU]; exact hP, va_K.moved hW.alike hK⟩⟩ rfl rfl hl.1 rfl (lv_room (Nat.le_of_ble_eq_true rfl)) dX1_bend_34 ⟨Nat.zero_le _, Nat.zero_le _⟩) (fun r_6 hw => ?_)
          try dsimp only at hw
          exact W.iret (v := r_6) hx hb hr (fun t ht hW => ⟨⟨r_6, g_5, rfl, hw, by rw [ht]; exact hP, va_K.moved hW.alike hK, hD⟩, hS.F ht⟩) hS.2.2 dX1_bend_37
        · replace hw := hw.2 hc
          clear hc
          refine lv_iconst (v := (-1 : Int32)) hx hb dX1_bend_24 (by decide) ?_
          exact W.iret (v := (-1 : Int32)) hx hb hr (fun t ht hW => ⟨⟨(-1 : Int32), g_4, rfl, hw, by rw [ht]; exact hP, va_K.moved hW.alike hK, hD⟩, hS.F ht⟩) hS.2.2 dX1_bend_25
  rw [hHe, hLe] at hgo
  exact hgo
-- X1_round
set_option maxHeartbeats 4000000 in
set_option maxRecDepth 100000 in
theorem cM_round (l : Launch) (dC : Nat → ClassId) (dI : Nat → Nat → Nat) (h : Nat) (ad : Nat → Nat) (ca : Nat → ClassId) (sz : Nat) (tc cl : Int32) (tr : Int64) (g : Sg) (x1 : Int32) (x2 : Int32) (x3 : Int32) (P : Int32 → Sg → Prop) (hw : wM_round P tc cl tr g x1 x2 x3) : Met l yX1_round wsX1_round ({ frames := 2, cells := 0, slots := 0, locals := 48 }) (va_Pc [.ref h, .int x1, .int x2, .int x3] (fun U => U.heap.size = sz ∧ va_P (dC, dI) vwCl (ML h ad ca tc cl tr g) U.heap ∧ va_K (dC, dI) vwCl (MT ca) U ∧ va_D (fun _ => True) (ML h ad ca tc cl tr g))) (va_Qi (fun (r : Int32) (u : Sg) => P r u) (at_M1 dC dI (va_A (ML h ad ca tc cl tr g) sz) h ad ca tc cl tr) (va_A (ML h ad ca tc cl tr g) sz)) 0 0 (va_A (ML h ad ca tc cl tr g) sz) := by
  refine Met.ofW (cc := cX1_round) (maxL := 4) (ret := (some .int)) (by decide) rfl ?_
  intro p e s m args below meth c s₁ B0 hml hv
  obtain ⟨hargs, hsz, hP, hK, hD0⟩ := hv
  have hx := B0.exec
  have hb := B0.bytes
  have hr := B0.returns
  have hts := atoms_spec (ws := wsX1_round) B0.pre
  have hown : s.vm.findClass RX1 = some m.cls := findClass_of_methodNamed B0.named
  have hlocks := B0.notSynchronized
  have inw : ∀ w ∈ wsX10, w ∈ wsX1_round := fun w h => List.mem_cons_of_mem _ (List.mem_append_right _ h)
  subst hsz
  have hD := hD0.self (sz := s.heap.size)
  generalize hAe : va_A (ML h ad ca tc cl tr g) s.heap.size = A at hD ⊢
  have hA : ∀ q : Nat, s.heap.size ≤ q → A q := fun q h => by rw [← hAe]; exact Or.inr h
  clear hAe hD0
  have hS : va_S A s.heap s.heap [] := va_S.rf
  subst hargs
  unfold wM_round at hw
  have hl := lv_entry ([.ref h, .int x1, .int x2, .int x3]) (n := 4) (Nat.le_of_ble_eq_true rfl)
  rw [lg_entry_eq]
  generalize (lg_sl ([.ref h, .int x1, .int x2, .int x3]) ++ List.replicate (4 - (lg_sl ([.ref h, .int x1, .int x2, .int x3])).length) Slot.unset).toArray = ls at hl ⊢
  have hl : lv_has ls 4 [(0, .ref h), (1, .int x1), (2, .int x2), (3, .int x3)] := hl
  obtain ⟨H, hHe⟩ : ∃ z : Heap, z = s.heap := ⟨_, rfl⟩
  obtain ⟨locs, hLe⟩ : ∃ z : List Loc, z = [] := ⟨_, rfl⟩
  have hS : va_S A s.heap H locs := by rw [hHe, hLe]; exact hS
  have hP : va_P (dC, dI) vwCl (ML h ad ca tc cl tr g) H := by rw [hHe]; exact hP
  have hgo : W p l e (headSpec wsX1_round ({ frames := 2, cells := 0, slots := 0, locals := 48 })).room s m ([.ref h, .int x1, .int x2, .int x3] : List Value).toArray below meth c H locs 0 0 (MQ below (va_Qi (fun (r : Int32) (u : Sg) => P r u) (at_M1 dC dI A h ad ca tc cl tr) A) ([.ref h, .int x1, .int x2, .int x3] : List Value).toArray s 0 0 A) (F0 m 0 ls []) := by
    clear hHe hLe
    refine lv_iload_n hx hb dX1_round_0 rfl (lv_at hl 1 rfl) ?_
    refine vp_callSi (W.runS (As := [.int x1]) (rest := []) ⟨hx, hb, hml, hown, hts⟩ (cM_isHeight l x1 _ hw) (va_cwS 1 hts gX1_round_X1_isHeight rfl rfl rfl (by decide +kernel) ⟨Nat.le_of_ble_eq_true rfl, Nat.le_of_ble_eq_true rfl⟩) ⟨fun a U g mk q => q, fun U hU hW => ⟨rfl, trivial⟩⟩ rfl rfl hl.1 rfl (lv_room (Nat.le_of_ble_eq_true rfl)) dX1_round_1 ⟨Nat.zero_le _, Nat.zero_le _⟩) (fun r_1 hw => ?_)
    try dsimp only at hw
    refine lv_if_eq (tgt := 23) hx hb dX1_round_4 (by decide) (fun hc => ?_) (fun hc => ?_)
    · replace hw := hw.1 hc
      clear hc
      refine lv_iconst (v := (-1 : Int32)) hx hb dX1_round_23 (by decide) ?_
      exact W.iret (v := (-1 : Int32)) hx hb hr (fun t ht hW => ⟨⟨(-1 : Int32), g, rfl, hw, by rw [ht]; exact hP, va_K.moved hW.alike hK, hD⟩, hS.F ht⟩) hS.2.2 dX1_round_24
    · replace hw := hw.2 hc
      clear hc
      refine lv_iload_n hx hb dX1_round_7 rfl (lv_at hl 3 rfl) ?_
      refine vp_callSi (W.runS (As := [.int x3]) (rest := []) ⟨hx, hb, hml, hown, hts⟩ (cM_isKind l x3 _ hw) (va_cwS 1 hts gX1_round_X1_isKind rfl rfl rfl (by decide +kernel) ⟨Nat.le_of_ble_eq_true rfl, Nat.le_of_ble_eq_true rfl⟩) ⟨fun a U g mk q => q, fun U hU hW => ⟨rfl, trivial⟩⟩ rfl rfl hl.1 rfl (lv_room (Nat.le_of_ble_eq_true rfl)) dX1_round_8 ⟨Nat.zero_le _, Nat.zero_le _⟩) (fun r_2 hw => ?_)
      try dsimp only at hw
      refine lv_if_eq (tgt := 23) hx hb dX1_round_11 (by decide) (fun hc => ?_) (fun hc => ?_)
      · replace hw := hw.1 hc
        clear hc
        refine lv_iconst (v := (-1 : Int32)) hx hb dX1_round_23 (by decide) ?_
        exact W.iret (v := (-1 : Int32)) hx hb hr (fun t ht hW => ⟨⟨(-1 : Int32), g, rfl, hw, by rw [ht]; exact hP, va_K.moved hW.alike hK, hD⟩, hS.F ht⟩) hS.2.2 dX1_round_24
      · replace hw := hw.2 hc
        clear hc
        refine lv_aload_n hx hb dX1_round_14 rfl (lv_at hl 0 rfl) ?_
        refine lv_iload_n hx hb dX1_round_15 rfl (lv_at hl 1 rfl) ?_
        refine lv_iload_n hx hb dX1_round_16 rfl (lv_at hl 2 rfl) ?_
        have hFc := va_free (wc := (ML h ad ca tc cl tr g)) hD hS hA [0, 1, 2, 3, 4, 5, 6] rfl
        refine va_calli (va_runV (As := [.int x1, .int x2]) (rest := []) ⟨hx, hb, hml, hown, hts⟩ (cM_take l dC dI h ad ca H.size tc cl tr g x1 x2 _ hw) (cwV 2 hts gX1_round_X1_take rfl rfl rfl (by decide +kernel) ⟨Nat.le_of_ble_eq_true rfl, Nat.le_of_ble_eq_true rfl⟩) ⟨fun a U g mk q => by obtain ⟨q0, q1, qP, qK, qD⟩ := q; exact ⟨q0, q1, qP, va_K.moved (u := U) (U := U.calling g mk a) (Vm.Alike.refl U.vm) qK, qD⟩, va_recv hK hP (ci := 1) (q0 := 0) rfl rfl, fun U hU hW => ⟨rfl, by rw [hU], by rw [hU]; exact hP, va_K.moved hW.alike hK, hD.weaken (fun _ _ _ _ => trivial)⟩⟩ rfl rfl hl.1 rfl (lv_room (Nat.le_of_ble_eq_true rfl)) dX1_round_17 ⟨Nat.zero_le _, Nat.zero_le _⟩) hS (fun q _ h => hFc q h) hFc (fun r_3 g_4 t H1 locs ht hvm hw hB hz1 hk1 hS => ?_)
        obtain ⟨hP1, hK1, hD1⟩ := hB
        rw [ht] at hP1
        have hP : va_P (dC, dI) vwCl (ML h ad ca tc cl tr g_4) H1 := hP1
        have hD : va_D A (ML h ad ca tc cl tr g_4) := hD1.weaken (fun _ _ _ h => hFc _ h)
        clear hP1 hK1 hD1 hFc hk1 hz1 hvm ht
        generalize H1 = H at hP hS ⊢
        try dsimp only at hw
        refine lv_if_ne (tgt := 25) hx hb dX1_round_20 (by decide) (fun hc => ?_) (fun hc => ?_)
        · replace hw := hw.1 hc
          clear hc
          refine lv_aload_n hx hb dX1_round_25 rfl (lv_at hl 0 rfl) ?_
          refine lv_iload_n hx hb dX1_round_26 rfl (lv_at hl 1 rfl) ?_
          refine lv_iload_n hx hb dX1_round_27 rfl (lv_at hl 3 rfl) ?_
          have hFc := va_free (wc := (ML h ad ca tc cl tr g_4)) hD hS hA [0, 1, 2, 3, 4, 5, 6] rfl
          refine va_callv (va_runV (As := [.int x1, .int x3]) (rest := []) ⟨hx, hb, hml, hown, hts⟩ (cM_rounds l dC dI h ad ca H.size tc cl tr g_4 x1 x3 _ hw) (cwV 2 hts gX1_round_X1_rounds rfl rfl rfl (by decide +kernel) ⟨Nat.le_of_ble_eq_true rfl, Nat.le_of_ble_eq_true rfl⟩) ⟨fun a U g mk q => by obtain ⟨q0, q1, qP, qK, qD⟩ := q; exact ⟨q0, q1, qP, va_K.moved (u := U) (U := U.calling g mk a) (Vm.Alike.refl U.vm) qK, qD⟩, va_recv hK hP (ci := 1) (q0 := 0) rfl rfl, fun U hU hW => ⟨rfl, by rw [hU], by rw [hU]; exact hP, va_K.moved hW.alike hK, hD.weaken (fun _ _ _ _ => trivial)⟩⟩ rfl rfl hl.1 rfl (lv_room (Nat.le_of_ble_eq_true rfl)) dX1_round_28 ⟨Nat.zero_le _, Nat.zero_le _⟩) hS (fun q _ h => hFc q h) hFc (fun g_5 t H1 locs ht hvm hw hB hz1 hk1 hS => ?_)
          obtain ⟨hP1, hK1, hD1⟩ := hB
          rw [ht] at hP1
          have hP : va_P (dC, dI) vwCl (ML h ad ca tc cl tr g_5) H1 := hP1
          have hD : va_D A (ML h ad ca tc cl tr g_5) := hD1.weaken (fun _ _ _ h => hFc _ h)
          clear hP1 hK1 hD1 hFc hk1 hz1 hvm ht
          generalize H1 = H at hP hS ⊢
          try dsimp only at hw
          refine lv_aload_n hx hb dX1_round_31 rfl (lv_at hl 0 rfl) ?_
          refine lv_iload_n hx hb dX1_round_32 rfl (lv_at hl 1 rfl) ?_
          refine vp_callSi (W.runV (As := [.int x1]) (rest := []) ⟨hx, hb, hml, hown, hts⟩ (cM_number l dC dI h ad ca tc cl tr g_5 x1 _ hw) (cwV 1 hts gX1_round_X1_number rfl rfl rfl (by decide +kernel) ⟨Nat.le_of_ble_eq_true rfl, Nat.le_of_ble_eq_true rfl⟩) ⟨fun a U g mk q => by obtain ⟨q0, qP, qK⟩ := q; exact ⟨q0, qP, va_K.moved (u := U) (U := U.calling g mk a) (Vm.Alike.refl U.vm) qK⟩, va_recv hK hP (ci := 1) (q0 := 0) rfl rfl, fun U hU hW => ⟨rfl, by rw [hU]; exact hP, va_K.moved hW.alike hK⟩⟩ rfl rfl hl.1 rfl (lv_room (Nat.le_of_ble_eq_true rfl)) dX1_round_33 ⟨Nat.zero_le _, Nat.zero_le _⟩) (fun r_6 hw => ?_)
          try dsimp only at hw
          exact W.iret (v := r_6) hx hb hr (fun t ht hW => ⟨⟨r_6, g_5, rfl, hw, by rw [ht]; exact hP, va_K.moved hW.alike hK, hD⟩, hS.F ht⟩) hS.2.2 dX1_round_36
        · replace hw := hw.2 hc
          clear hc
          refine lv_iconst (v := (-1 : Int32)) hx hb dX1_round_23 (by decide) ?_
          exact W.iret (v := (-1 : Int32)) hx hb hr (fun t ht hW => ⟨⟨(-1 : Int32), g_4, rfl, hw, by rw [ht]; exact hP, va_K.moved hW.alike hK, hD⟩, hS.F ht⟩) hS.2.2 dX1_round_24
  rw [hHe, hLe] at hgo
  exact hgo
-- X1_period
set_option maxHeartbeats 4000000 in
set_option maxRecDepth 100000 in
theorem cM_period (l : Launch) (dC : Nat → ClassId) (dI : Nat → Nat → Nat) (h : Nat) (ad : Nat → Nat) (ca : Nat → ClassId) (sz : Nat) (tc cl : Int32) (tr : Int64) (g : Sg) (x1 : Int32) (x2 : Int32) (x3 : Int32) (P : Int32 → Sg → Prop) (hw : wM_period P tc cl tr g x1 x2 x3) : Met l yX1_period wsX1_period ({ frames := 2, cells := 0, slots := 0, locals := 48 }) (va_Pc [.ref h, .int x1, .int x2, .int x3] (fun U => U.heap.size = sz ∧ va_P (dC, dI) vwCl (ML h ad ca tc cl tr g) U.heap ∧ va_K (dC, dI) vwCl (MT ca) U ∧ va_D (fun _ => True) (ML h ad ca tc cl tr g))) (va_Qi (fun (r : Int32) (u : Sg) => P r u) (at_M1 dC dI (va_A (ML h ad ca tc cl tr g) sz) h ad ca tc cl tr) (va_A (ML h ad ca tc cl tr g) sz)) 0 0 (va_A (ML h ad ca tc cl tr g) sz) := by
  refine Met.ofW (cc := cX1_period) (maxL := 6) (ret := (some .int)) (by decide) rfl ?_
  intro p e s m args below meth c s₁ B0 hml hv
  obtain ⟨hargs, hsz, hP, hK, hD0⟩ := hv
  have hx := B0.exec
  have hb := B0.bytes
  have hr := B0.returns
  have hts := atoms_spec (ws := wsX1_period) B0.pre
  have hown : s.vm.findClass RX1 = some m.cls := findClass_of_methodNamed B0.named
  have hlocks := B0.notSynchronized
  have inw : ∀ w ∈ wsX10, w ∈ wsX1_period := fun w h => List.mem_cons_of_mem _ (List.mem_append_right _ h)
  subst hsz
  have hD := hD0.self (sz := s.heap.size)
  generalize hAe : va_A (ML h ad ca tc cl tr g) s.heap.size = A at hD ⊢
  have hA : ∀ q : Nat, s.heap.size ≤ q → A q := fun q h => by rw [← hAe]; exact Or.inr h
  clear hAe hD0
  have hS : va_S A s.heap s.heap [] := va_S.rf
  have lp_31 : ∀ (x1 : Int32) (x2 : Int32) (x3 : Int32) (K64 : Int32 → Int32 → Sg → Prop) (hK64 : ∀ (x4 : Int32) (x5 : Int32) (g : Sg) (H : Heap) (locs : List Loc) (ls : Array Slot), K64 x4 x5 g → va_P (dC, dI) vwCl (ML h ad ca tc cl tr g) H → va_D A (ML h ad ca tc cl tr g) → va_S A s.heap H locs → lv_has ls 6 [(0, .ref h), (2, .int x2), (4, .int x4), (5, .int x5)] → W p l e (headSpec wsX1_period ({ frames := 2, cells := 0, slots := 0, locals := 48 })).room s m args below meth c H locs 0 0 (MQ below (va_Qi (fun (r : Int32) (u : Sg) => P r u) (at_M1 dC dI A h ad ca tc cl tr) A) args s 0 0 A) (F0 m 64 ls [])), ∀ (n : Nat) (x4 : Int32) (x5 : Int32) (g : Sg) (H : Heap) (locs : List Loc) (ls : Array Slot), Lp3 (wM_period_b31 P tc cl tr x1 x2 x3 K64) n x4 x5 g → va_P (dC, dI) vwCl (ML h ad ca tc cl tr g) H → va_D A (ML h ad ca tc cl tr g) → va_S A s.heap H locs → lv_has ls 6 [(0, .ref h), (1, .int x1), (2, .int x2), (3, .int x3), (4, .int x4), (5, .int x5)] → W p l e (headSpec wsX1_period ({ frames := 2, cells := 0, slots := 0, locals := 48 })).room s m args below meth c H locs 0 0 (MQ below (va_Qi (fun (r : Int32) (u : Sg) => P r u) (at_M1 dC dI A h ad ca tc cl tr) A) args s 0 0 A) (F0 m 31 ls []) := by
    intro x1 x2 x3 K64 hK64
    intro n
    induction n with
    | zero => intro x4 x5 g H locs ls hw; exact False.elim hw
    | succ n hB =>
      intro x4 x5 g H locs ls hw hP hD hS hl
      replace hw : wM_period_b31 P tc cl tr x1 x2 x3 K64 (Lp3 (wM_period_b31 P tc cl tr x1 x2 x3 K64) n) x4 x5 g := hw
      unfold wM_period_b31 at hw
      refine lv_iload hx hb dX1_period_31 (lv_at hl 5 rfl) ?_
      refine lv_iload_n hx hb dX1_period_33 rfl (lv_at hl 2 rfl) ?_
      refine lv_icmp_eq (tgt := 64) hx hb dX1_period_34 (by decide) (fun hc => ?_) (fun hc => ?_)
      · replace hw := hw.1 hc
        clear hc
        exact hK64 x4 x5 g H locs ls hw hP hD hS (lv_sub hl [0, 2, 4, 5] rfl)
      · replace hw := hw.2 hc
        clear hc
        refine lv_iload hx hb dX1_period_37 (lv_at hl 4 rfl) ?_
        refine lv_sipush (v := (1000 : Int32)) hx hb dX1_period_39 (by decide) ?_
        refine lv_icmp_ge (tgt := 64) hx hb dX1_period_42 (by decide) (fun hc => ?_) (fun hc => ?_)
        · replace hw := hw.1 hc
          clear hc
          exact hK64 x4 x5 g H locs ls hw hP hD hS (lv_sub hl [0, 2, 4, 5] rfl)
        · replace hw := hw.2 hc
          clear hc
          refine lv_aload_n hx hb dX1_period_45 rfl (lv_at hl 0 rfl) ?_
          refine lv_iload_n hx hb dX1_period_46 rfl (lv_at hl 1 rfl) ?_
          refine lv_iload_n hx hb dX1_period_47 rfl (lv_at hl 3 rfl) ?_
          have hFc := va_free (wc := (ML h ad ca tc cl tr g)) hD hS hA [0, 1, 2, 3, 4, 5, 6] rfl
          refine va_callv (va_runV (As := [.int x1, .int x3]) (rest := []) ⟨hx, hb, hml, hown, hts⟩ (cM_rounds l dC dI h ad ca H.size tc cl tr g x1 x3 _ hw) (cwV 2 hts gX1_period_X1_rounds rfl rfl rfl (by decide +kernel) ⟨Nat.le_of_ble_eq_true rfl, Nat.le_of_ble_eq_true rfl⟩) ⟨fun a U g mk q => by obtain ⟨q0, q1, qP, qK, qD⟩ := q; exact ⟨q0, q1, qP, va_K.moved (u := U) (U := U.calling g mk a) (Vm.Alike.refl U.vm) qK, qD⟩, va_recv hK hP (ci := 1) (q0 := 0) rfl rfl, fun U hU hW => ⟨rfl, by rw [hU], by rw [hU]; exact hP, va_K.moved hW.alike hK, hD.weaken (fun _ _ _ _ => trivial)⟩⟩ rfl rfl hl.1 rfl (lv_room (Nat.le_of_ble_eq_true rfl)) dX1_period_48 ⟨Nat.zero_le _, Nat.zero_le _⟩) hS (fun q _ h => hFc q h) hFc (fun g_1 t H1 locs ht hvm hw hB hz1 hk1 hS => ?_)
          obtain ⟨hP1, hK1, hD1⟩ := hB
          rw [ht] at hP1
          have hP : va_P (dC, dI) vwCl (ML h ad ca tc cl tr g_1) H1 := hP1
          have hD : va_D A (ML h ad ca tc cl tr g_1) := hD1.weaken (fun _ _ _ h => hFc _ h)
          clear hP1 hK1 hD1 hFc hk1 hz1 hvm ht
          generalize H1 = H at hP hS ⊢
          try dsimp only at hw
          refine lv_aload_n hx hb dX1_period_51 rfl (lv_at hl 0 rfl) ?_
          refine lv_iload_n hx hb dX1_period_52 rfl (lv_at hl 1 rfl) ?_
          refine vp_callSi (W.runV (As := [.int x1]) (rest := []) ⟨hx, hb, hml, hown, hts⟩ (cM_number l dC dI h ad ca tc cl tr g_1 x1 _ hw) (cwV 1 hts gX1_period_X1_number rfl rfl rfl (by decide +kernel) ⟨Nat.le_of_ble_eq_true rfl, Nat.le_of_ble_eq_true rfl⟩) ⟨fun a U g mk q => by obtain ⟨q0, qP, qK⟩ := q; exact ⟨q0, qP, va_K.moved (u := U) (U := U.calling g mk a) (Vm.Alike.refl U.vm) qK⟩, va_recv hK hP (ci := 1) (q0 := 0) rfl rfl, fun U hU hW => ⟨rfl, by rw [hU]; exact hP, va_K.moved hW.alike hK⟩⟩ rfl rfl hl.1 rfl (lv_room (Nat.le_of_ble_eq_true rfl)) dX1_period_53 ⟨Nat.zero_le _, Nat.zero_le _⟩) (fun r_2 hw => ?_)
          try dsimp only at hw
          refine lv_istore (lv' := [(5, .int r_2), (0, .ref h), (1, .int x1), (2, .int x2), (3, .int x3), (4, .int x4)]) hx hb dX1_period_56 hl (by decide) rfl (fun ls hl => ?_)
          refine lv_iinc (v := (x4 + 1)) (lv' := [(4, .int ((x4 + 1))), (5, .int r_2), (0, .ref h), (1, .int x1), (2, .int x2), (3, .int x3)]) hx hb dX1_period_58 hl (k := 5) rfl rfl (by decide) rfl (fun ls hl => ?_)
          refine lv_goto (tgt := 31) hx hb dX1_period_61 (by decide) ?_
          exact hB (x4 + 1) r_2 g_1 H locs ls hw hP hD hS (lv_sub hl [2, 3, 4, 5, 0, 1] rfl)
  subst hargs
  unfold wM_period at hw
  have hl := lv_entry ([.ref h, .int x1, .int x2, .int x3]) (n := 6) (Nat.le_of_ble_eq_true rfl)
  rw [lg_entry_eq]
  generalize (lg_sl ([.ref h, .int x1, .int x2, .int x3]) ++ List.replicate (6 - (lg_sl ([.ref h, .int x1, .int x2, .int x3])).length) Slot.unset).toArray = ls at hl ⊢
  have hl : lv_has ls 6 [(0, .ref h), (1, .int x1), (2, .int x2), (3, .int x3)] := hl
  obtain ⟨H, hHe⟩ : ∃ z : Heap, z = s.heap := ⟨_, rfl⟩
  obtain ⟨locs, hLe⟩ : ∃ z : List Loc, z = [] := ⟨_, rfl⟩
  have hS : va_S A s.heap H locs := by rw [hHe, hLe]; exact hS
  have hP : va_P (dC, dI) vwCl (ML h ad ca tc cl tr g) H := by rw [hHe]; exact hP
  have hgo : W p l e (headSpec wsX1_period ({ frames := 2, cells := 0, slots := 0, locals := 48 })).room s m ([.ref h, .int x1, .int x2, .int x3] : List Value).toArray below meth c H locs 0 0 (MQ below (va_Qi (fun (r : Int32) (u : Sg) => P r u) (at_M1 dC dI A h ad ca tc cl tr) A) ([.ref h, .int x1, .int x2, .int x3] : List Value).toArray s 0 0 A) (F0 m 0 ls []) := by
    clear hHe hLe
    refine lv_iload_n hx hb dX1_period_0 rfl (lv_at hl 1 rfl) ?_
    refine vp_callSi (W.runS (As := [.int x1]) (rest := []) ⟨hx, hb, hml, hown, hts⟩ (cM_isHeight l x1 _ hw) (va_cwS 1 hts gX1_period_X1_isHeight rfl rfl rfl (by decide +kernel) ⟨Nat.le_of_ble_eq_true rfl, Nat.le_of_ble_eq_true rfl⟩) ⟨fun a U g mk q => q, fun U hU hW => ⟨rfl, trivial⟩⟩ rfl rfl hl.1 rfl (lv_room (Nat.le_of_ble_eq_true rfl)) dX1_period_1 ⟨Nat.zero_le _, Nat.zero_le _⟩) (fun r_3 hw => ?_)
    try dsimp only at hw
    refine lv_if_eq (tgt := 23) hx hb dX1_period_4 (by decide) (fun hc => ?_) (fun hc => ?_)
    · replace hw := hw.1 hc
      clear hc
      refine lv_iconst (v := (-1 : Int32)) hx hb dX1_period_23 (by decide) ?_
      exact W.iret (v := (-1 : Int32)) hx hb hr (fun t ht hW => ⟨⟨(-1 : Int32), g, rfl, hw, by rw [ht]; exact hP, va_K.moved hW.alike hK, hD⟩, hS.F ht⟩) hS.2.2 dX1_period_24
    · replace hw := hw.2 hc
      clear hc
      refine lv_iload_n hx hb dX1_period_7 rfl (lv_at hl 3 rfl) ?_
      refine vp_callSi (W.runS (As := [.int x3]) (rest := []) ⟨hx, hb, hml, hown, hts⟩ (cM_isKind l x3 _ hw) (va_cwS 1 hts gX1_period_X1_isKind rfl rfl rfl (by decide +kernel) ⟨Nat.le_of_ble_eq_true rfl, Nat.le_of_ble_eq_true rfl⟩) ⟨fun a U g mk q => q, fun U hU hW => ⟨rfl, trivial⟩⟩ rfl rfl hl.1 rfl (lv_room (Nat.le_of_ble_eq_true rfl)) dX1_period_8 ⟨Nat.zero_le _, Nat.zero_le _⟩) (fun r_4 hw => ?_)
      try dsimp only at hw
      refine lv_if_eq (tgt := 23) hx hb dX1_period_11 (by decide) (fun hc => ?_) (fun hc => ?_)
      · replace hw := hw.1 hc
        clear hc
        refine lv_iconst (v := (-1 : Int32)) hx hb dX1_period_23 (by decide) ?_
        exact W.iret (v := (-1 : Int32)) hx hb hr (fun t ht hW => ⟨⟨(-1 : Int32), g, rfl, hw, by rw [ht]; exact hP, va_K.moved hW.alike hK, hD⟩, hS.F ht⟩) hS.2.2 dX1_period_24
      · replace hw := hw.2 hc
        clear hc
        refine lv_aload_n hx hb dX1_period_14 rfl (lv_at hl 0 rfl) ?_
        refine lv_iload_n hx hb dX1_period_15 rfl (lv_at hl 1 rfl) ?_
        refine lv_iload_n hx hb dX1_period_16 rfl (lv_at hl 2 rfl) ?_
        have hFc := va_free (wc := (ML h ad ca tc cl tr g)) hD hS hA [0, 1, 2, 3, 4, 5, 6] rfl
        refine va_calli (va_runV (As := [.int x1, .int x2]) (rest := []) ⟨hx, hb, hml, hown, hts⟩ (cM_take l dC dI h ad ca H.size tc cl tr g x1 x2 _ hw) (cwV 2 hts gX1_period_X1_take rfl rfl rfl (by decide +kernel) ⟨Nat.le_of_ble_eq_true rfl, Nat.le_of_ble_eq_true rfl⟩) ⟨fun a U g mk q => by obtain ⟨q0, q1, qP, qK, qD⟩ := q; exact ⟨q0, q1, qP, va_K.moved (u := U) (U := U.calling g mk a) (Vm.Alike.refl U.vm) qK, qD⟩, va_recv hK hP (ci := 1) (q0 := 0) rfl rfl, fun U hU hW => ⟨rfl, by rw [hU], by rw [hU]; exact hP, va_K.moved hW.alike hK, hD.weaken (fun _ _ _ _ => trivial)⟩⟩ rfl rfl hl.1 rfl (lv_room (Nat.le_of_ble_eq_true rfl)) dX1_period_17 ⟨Nat.zero_le _, Nat.zero_le _⟩) hS (fun q _ h => hFc q h) hFc (fun r_5 g_6 t H1 locs ht hvm hw hB hz1 hk1 hS => ?_)
        obtain ⟨hP1, hK1, hD1⟩ := hB
        rw [ht] at hP1
        have hP : va_P (dC, dI) vwCl (ML h ad ca tc cl tr g_6) H1 := hP1
        have hD : va_D A (ML h ad ca tc cl tr g_6) := hD1.weaken (fun _ _ _ h => hFc _ h)
        clear hP1 hK1 hD1 hFc hk1 hz1 hvm ht
        generalize H1 = H at hP hS ⊢
        try dsimp only at hw
        refine lv_if_ne (tgt := 25) hx hb dX1_period_20 (by decide) (fun hc => ?_) (fun hc => ?_)
        · replace hw := hw.1 hc
          clear hc
          refine lv_iconst (v := (0 : Int32)) hx hb dX1_period_25 (by decide) ?_
          refine lv_istore (lv' := [(4, .int (0 : Int32)), (0, .ref h), (1, .int x1), (2, .int x2), (3, .int x3)]) hx hb dX1_period_26 hl (by decide) rfl (fun ls hl => ?_)
          refine lv_iconst (v := (-1 : Int32)) hx hb dX1_period_28 (by decide) ?_
          refine lv_istore (lv' := [(5, .int (-1 : Int32)), (4, .int (0 : Int32)), (0, .ref h), (1, .int x1), (2, .int x2), (3, .int x3)]) hx hb dX1_period_29 hl (by decide) rfl (fun ls hl => ?_)
          obtain ⟨n_10, hw⟩ := hw
          refine lp_31 x1 x2 x3 _ ?_ n_10 (0 : Int32) (-1 : Int32) g_6 H locs ls hw hP hD hS (lv_sub hl [2, 3, 4, 5, 1, 0] rfl)
          · intro x4_7 x5_8 g_9 H locs ls hw hP hD hS hl
            try dsimp only at hw
            refine lv_iload hx hb dX1_period_64 (lv_at hl 3 rfl) ?_
            refine lv_iload_n hx hb dX1_period_66 rfl (lv_at hl 1 rfl) ?_
            refine lv_icmp_ne (tgt := 75) hx hb dX1_period_67 (by decide) (fun hc => ?_) (fun hc => ?_)
            · replace hw := hw.1 hc
              clear hc
              refine lv_bipush (v := (-9 : Int32)) hx hb dX1_period_75 (by decide) ?_
              exact W.iret (v := (-9 : Int32)) hx hb hr (fun t ht hW => ⟨⟨(-9 : Int32), g_9, rfl, hw, by rw [ht]; exact hP, va_K.moved hW.alike hK, hD⟩, hS.F ht⟩) hS.2.2 dX1_period_77
            · replace hw := hw.2 hc
              clear hc
              refine lv_iload hx hb dX1_period_70 (lv_at hl 2 rfl) ?_
              refine lv_goto (tgt := 77) hx hb dX1_period_72 (by decide) ?_
              exact W.iret (v := x4_7) hx hb hr (fun t ht hW => ⟨⟨x4_7, g_9, rfl, hw, by rw [ht]; exact hP, va_K.moved hW.alike hK, hD⟩, hS.F ht⟩) hS.2.2 dX1_period_77
        · replace hw := hw.2 hc
          clear hc
          refine lv_iconst (v := (-1 : Int32)) hx hb dX1_period_23 (by decide) ?_
          exact W.iret (v := (-1 : Int32)) hx hb hr (fun t ht hW => ⟨⟨(-1 : Int32), g_6, rfl, hw, by rw [ht]; exact hP, va_K.moved hW.alike hK, hD⟩, hS.F ht⟩) hS.2.2 dX1_period_24
  rw [hHe, hLe] at hgo
  exact hgo
-- X1_countOf
set_option maxHeartbeats 4000000 in
set_option maxRecDepth 100000 in
theorem cM_countOf (l : Launch) (dC : Nat → ClassId) (dI : Nat → Nat → Nat) (h : Nat) (ad : Nat → Nat) (ca : Nat → ClassId) (tc cl : Int32) (tr : Int64) (g : Sg) (x1 : Int32) (P : Int32 → Prop) (hw : wM_countOf P tc cl tr g x1) : Met l yX1_countOf wsX1_countOf ({ frames := 2, cells := 0, slots := 0, locals := 46 }) (va_Pc [.ref h, .int x1] (fun U => va_P (dC, dI) vwCl (ML h ad ca tc cl tr g) U.heap ∧ va_K (dC, dI) vwCl (MT ca) U)) (vp_Si P) 0 0 (fun _ => False) := by
  refine Met.ofW (cc := cX1_countOf) (maxL := 6) (ret := (some .int)) (by decide) rfl ?_
  intro p e s m args below meth c s₁ B0 hml hv
  obtain ⟨hargs, hP, hK⟩ := hv
  have hx := B0.exec
  have hb := B0.bytes
  have hr := B0.returns
  have hts := atoms_spec (ws := wsX1_countOf) B0.pre
  have hown : s.vm.findClass RX1 = some m.cls := findClass_of_methodNamed B0.named
  have hlocks := B0.notSynchronized
  have inw : ∀ w ∈ wsX10, w ∈ wsX1_countOf := fun w h => List.mem_cons_of_mem _ (List.mem_append_right _ h)
  have f7 : (Cond.fieldLink RX1 7 "FlipHeapsModel" "things" "I").before args s = true := hts _ (by decide +kernel)
  have jn_45 : ∀ (B : Int32 → Int32 → Prop) (K54 : Int32 → Prop) (x1 : Int32) (x2 : Int32) (x3 : Int32) (x5 : Int32) (y0 : Int32) (y1 : Int32) (hB : ∀ (x4 : Int32) (x5 : Int32) (ls : Array Slot), B x4 x5 → lv_has ls 6 [(0, .ref h), (1, .int x1), (2, .int x2), (3, .int x3), (4, .int x4), (5, .int x5)] → W p l e (headSpec wsX1_countOf ({ frames := 2, cells := 0, slots := 0, locals := 46 })).room s m args below meth c s.heap [] 0 0 (MQ below (vp_Si P) args s 0 0 (fun _ => False)) (F0 m 20 ls [])) (hK54 : ∀ (x4 : Int32) (ls : Array Slot), K54 x4 → lv_has ls 6 [(0, .ref h), (1, .int x1), (2, .int x2), (3, .int x3), (4, .int x4)] → W p l e (headSpec wsX1_countOf ({ frames := 2, cells := 0, slots := 0, locals := 46 })).room s m args below meth c s.heap [] 0 0 (MQ below (vp_Si P) args s 0 0 (fun _ => False)) (F0 m 54 ls [])) (ls : Array Slot), wM_countOf_j45 P tc cl tr g B K54 x1 x2 x3 x5 y0 y1 → lv_has ls 6 [(0, .ref h), (1, .int x1), (2, .int x2), (3, .int x3), (5, .int x5)] → W p l e (headSpec wsX1_countOf ({ frames := 2, cells := 0, slots := 0, locals := 46 })).room s m args below meth c s.heap [] 0 0 (MQ below (vp_Si P) args s 0 0 (fun _ => False)) (F0 m 45 ls [.int y1, .int y0]) := by
    intro B K54 x1 x2 x3 x5 y0 y1 hB hK54 ls hw hl
    unfold wM_countOf_j45 at hw
    refine lv_iadd hx hb dX1_countOf_45 ?_
    refine lv_topi (fun x4_1 hv => ?_)
    replace hw := hw x4_1 hv
    clear hv
    refine lv_istore (lv' := [(4, .int x4_1), (0, .ref h), (1, .int x1), (2, .int x2), (3, .int x3), (5, .int x5)]) hx hb dX1_countOf_46 hl (by decide) rfl (fun ls hl => ?_)
    refine lv_iinc (v := (x5 + 1)) (lv' := [(5, .int ((x5 + 1))), (4, .int x4_1), (0, .ref h), (1, .int x1), (2, .int x2), (3, .int x3)]) hx hb dX1_countOf_48 hl (k := 5) rfl rfl (by decide) rfl (fun ls hl => ?_)
    refine lv_goto (tgt := 20) hx hb dX1_countOf_51 (by decide) ?_
    exact hB x4_1 (x5 + 1) ls hw (lv_sub hl [2, 3, 4, 5, 1, 0] rfl)
  have lp_20 : ∀ (x1 : Int32) (x2 : Int32) (x3 : Int32) (K54 : Int32 → Prop) (hK54 : ∀ (x4 : Int32) (ls : Array Slot), K54 x4 → lv_has ls 6 [(0, .ref h), (1, .int x1), (2, .int x2), (3, .int x3), (4, .int x4)] → W p l e (headSpec wsX1_countOf ({ frames := 2, cells := 0, slots := 0, locals := 46 })).room s m args below meth c s.heap [] 0 0 (MQ below (vp_Si P) args s 0 0 (fun _ => False)) (F0 m 54 ls [])), ∀ (n : Nat) (x4 : Int32) (x5 : Int32) (ls : Array Slot), Lp2 (wM_countOf_b20 P tc cl tr g x1 x2 x3 K54) n x4 x5 → lv_has ls 6 [(0, .ref h), (1, .int x1), (2, .int x2), (3, .int x3), (4, .int x4), (5, .int x5)] → W p l e (headSpec wsX1_countOf ({ frames := 2, cells := 0, slots := 0, locals := 46 })).room s m args below meth c s.heap [] 0 0 (MQ below (vp_Si P) args s 0 0 (fun _ => False)) (F0 m 20 ls []) := by
    intro x1 x2 x3 K54 hK54
    intro n
    induction n with
    | zero => intro x4 x5 ls hw; exact False.elim hw
    | succ n hB =>
      intro x4 x5 ls hw hl
      replace hw : wM_countOf_b20 P tc cl tr g x1 x2 x3 K54 (Lp2 (wM_countOf_b20 P tc cl tr g x1 x2 x3 K54) n) x4 x5 := hw
      unfold wM_countOf_b20 at hw
      refine lv_iload hx hb dX1_countOf_20 (lv_at hl 5 rfl) ?_
      refine lv_aload_n hx hb dX1_countOf_22 rfl (lv_at hl 0 rfl) ?_
      refine va_get (D := (dC, dI)) (ci := 1) (C := RX1) (T := TX1) (N := 9) hx hb hts inw hown hK hP 0 rfl rfl 0 (by decide) f7 (fun _ h9 => h9) rfl dX1_countOf_23 ?_
      refine lv_icmp_ge (tgt := 54) hx hb dX1_countOf_26 (by decide) (fun hc => ?_) (fun hc => ?_)
      · replace hw := hw.1 hc
        clear hc
        exact hK54 x4 ls hw (lv_sub hl [0, 1, 2, 3, 4] rfl)
      · replace hw := hw.2 hc
        clear hc
        refine lv_iload hx hb dX1_countOf_29 (lv_at hl 4 rfl) ?_
        refine lv_iload_n hx hb dX1_countOf_31 rfl (lv_at hl 3 rfl) ?_
        refine lv_iload hx hb dX1_countOf_32 (lv_at hl 5 rfl) ?_
        refine vp_callSi (W.runS (As := [.int x3, .int x5]) (rest := [.int x4]) ⟨hx, hb, hml, hown, hts⟩ (cM_has l x3 x5 _ hw) (va_cwS 2 hts gX1_countOf_X1_has rfl rfl rfl (by decide +kernel) ⟨Nat.le_of_ble_eq_true rfl, Nat.le_of_ble_eq_true rfl⟩) ⟨fun a U g mk q => q, fun U hU hW => ⟨rfl, trivial⟩⟩ rfl rfl hl.1 rfl (lv_room (Nat.le_of_ble_eq_true rfl)) dX1_countOf_34 ⟨Nat.zero_le _, Nat.zero_le _⟩) (fun r_2 hw => ?_)
        try dsimp only at hw
        refine lv_if_eq (tgt := 44) hx hb dX1_countOf_37 (by decide) (fun hc => ?_) (fun hc => ?_)
        · replace hw := hw.1 hc
          clear hc
          refine lv_iconst (v := (0 : Int32)) hx hb dX1_countOf_44 (by decide) ?_
          exact jn_45 _ _ x1 x2 x3 x5 x4 (0 : Int32) hB hK54 ls hw (lv_sub hl [0, 1, 2, 3, 5] rfl)
        · replace hw := hw.2 hc
          clear hc
          refine lv_iconst (v := (1 : Int32)) hx hb dX1_countOf_40 (by decide) ?_
          refine lv_goto (tgt := 45) hx hb dX1_countOf_41 (by decide) ?_
          exact jn_45 _ _ x1 x2 x3 x5 x4 (1 : Int32) hB hK54 ls hw (lv_sub hl [0, 1, 2, 3, 5] rfl)
  have jn_74 : ∀ (B : Int32 → Int32 → Prop) (x1 : Int32) (x3 : Int32) (y0 : Int32) (y1 : Int32) (hB : ∀ (x2 : Int32) (x3 : Int32) (ls : Array Slot), B x2 x3 → lv_has ls 6 [(0, .ref h), (1, .int x1), (2, .int x2), (3, .int x3)] → W p l e (headSpec wsX1_countOf ({ frames := 2, cells := 0, slots := 0, locals := 46 })).room s m args below meth c s.heap [] 0 0 (MQ below (vp_Si P) args s 0 0 (fun _ => False)) (F0 m 4 ls [])) (ls : Array Slot), wM_countOf_j74 P tc cl tr g B x1 x3 y0 y1 → lv_has ls 6 [(0, .ref h), (1, .int x1), (3, .int x3)] → W p l e (headSpec wsX1_countOf ({ frames := 2, cells := 0, slots := 0, locals := 46 })).room s m args below meth c s.heap [] 0 0 (MQ below (vp_Si P) args s 0 0 (fun _ => False)) (F0 m 74 ls [.int y1, .int y0]) := by
    intro B x1 x3 y0 y1 hB ls hw hl
    unfold wM_countOf_j74 at hw
    refine lv_iadd hx hb dX1_countOf_74 ?_
    refine lv_topi (fun x2_3 hv => ?_)
    replace hw := hw x2_3 hv
    clear hv
    refine lv_istore_n (lv' := [(2, .int x2_3), (0, .ref h), (1, .int x1), (3, .int x3)]) hx hb dX1_countOf_75 rfl hl (by decide) rfl (fun ls hl => ?_)
    refine lv_iinc (v := (x3 + 1)) (lv' := [(3, .int ((x3 + 1))), (2, .int x2_3), (0, .ref h), (1, .int x1)]) hx hb dX1_countOf_76 hl (k := 3) rfl rfl (by decide) rfl (fun ls hl => ?_)
    refine lv_goto (tgt := 4) hx hb dX1_countOf_79 (by decide) ?_
    exact hB x2_3 (x3 + 1) ls hw (lv_sub hl [2, 3, 1, 0] rfl)
  have jn_73 : ∀ (B : Int32 → Int32 → Prop) (x1 : Int32) (x3 : Int32) (y0 : Int32) (hB : ∀ (x2 : Int32) (x3 : Int32) (ls : Array Slot), B x2 x3 → lv_has ls 6 [(0, .ref h), (1, .int x1), (2, .int x2), (3, .int x3)] → W p l e (headSpec wsX1_countOf ({ frames := 2, cells := 0, slots := 0, locals := 46 })).room s m args below meth c s.heap [] 0 0 (MQ below (vp_Si P) args s 0 0 (fun _ => False)) (F0 m 4 ls [])) (ls : Array Slot), wM_countOf_j73 P tc cl tr g B x1 x3 y0 → lv_has ls 6 [(0, .ref h), (1, .int x1), (3, .int x3)] → W p l e (headSpec wsX1_countOf ({ frames := 2, cells := 0, slots := 0, locals := 46 })).room s m args below meth c s.heap [] 0 0 (MQ below (vp_Si P) args s 0 0 (fun _ => False)) (F0 m 73 ls [.int y0]) := by
    intro B x1 x3 y0 hB ls hw hl
    unfold wM_countOf_j73 at hw
    refine lv_iconst (v := (0 : Int32)) hx hb dX1_countOf_73 (by decide) ?_
    exact jn_74 _ x1 x3 y0 (0 : Int32) hB ls hw (lv_sub hl [0, 1, 2] rfl)
  have lp_4 : ∀ (x1 : Int32), ∀ (n : Nat) (x2 : Int32) (x3 : Int32) (ls : Array Slot), Lp2 (wM_countOf_b4 P tc cl tr g x1) n x2 x3 → lv_has ls 6 [(0, .ref h), (1, .int x1), (2, .int x2), (3, .int x3)] → W p l e (headSpec wsX1_countOf ({ frames := 2, cells := 0, slots := 0, locals := 46 })).room s m args below meth c s.heap [] 0 0 (MQ below (vp_Si P) args s 0 0 (fun _ => False)) (F0 m 4 ls []) := by
    intro x1
    intro n
    induction n with
    | zero => intro x2 x3 ls hw; exact False.elim hw
    | succ n hB =>
      intro x2 x3 ls hw hl
      replace hw : wM_countOf_b4 P tc cl tr g x1 (Lp2 (wM_countOf_b4 P tc cl tr g x1) n) x2 x3 := hw
      unfold wM_countOf_b4 at hw
      refine lv_iload_n hx hb dX1_countOf_4 rfl (lv_at hl 3 rfl) ?_
      refine lv_iconst (v := (1 : Int32)) hx hb dX1_countOf_5 (by decide) ?_
      refine lv_aload_n hx hb dX1_countOf_6 rfl (lv_at hl 0 rfl) ?_
      refine va_get (D := (dC, dI)) (ci := 1) (C := RX1) (T := TX1) (N := 9) hx hb hts inw hown hK hP 0 rfl rfl 0 (by decide) f7 (fun _ h9 => h9) rfl dX1_countOf_7 ?_
      refine lv_ishl hx hb dX1_countOf_10 ?_
      refine lv_icmp_ge (tgt := 82) hx hb dX1_countOf_11 (by decide) (fun hc => ?_) (fun hc => ?_)
      · replace hw := hw.1 hc
        clear hc
        refine lv_iload_n hx hb dX1_countOf_82 rfl (lv_at hl 2 rfl) ?_
        exact W.iret (v := x2) hx hb hr (fun t ht hW => ⟨_, rfl, hw, ht⟩) (fun q h => absurd h List.not_mem_nil) dX1_countOf_83
      · replace hw := hw.2 hc
        clear hc
        refine lv_iconst (v := (0 : Int32)) hx hb dX1_countOf_14 (by decide) ?_
        refine lv_istore (lv' := [(4, .int (0 : Int32)), (0, .ref h), (1, .int x1), (2, .int x2), (3, .int x3)]) hx hb dX1_countOf_15 hl (by decide) rfl (fun ls hl => ?_)
        refine lv_iconst (v := (0 : Int32)) hx hb dX1_countOf_17 (by decide) ?_
        refine lv_istore (lv' := [(5, .int (0 : Int32)), (4, .int (0 : Int32)), (0, .ref h), (1, .int x1), (2, .int x2), (3, .int x3)]) hx hb dX1_countOf_18 hl (by decide) rfl (fun ls hl => ?_)
        obtain ⟨n_6, hw⟩ := hw
        refine lp_20 x1 x2 x3 _ ?_ n_6 (0 : Int32) (0 : Int32) ls hw (lv_sub hl [2, 3, 4, 5, 1, 0] rfl)
        · intro x4_4 ls hw hl
          try dsimp only at hw
          refine lv_iload_n hx hb dX1_countOf_54 rfl (lv_at hl 2 rfl) ?_
          refine lv_iload hx hb dX1_countOf_55 (lv_at hl 4 rfl) ?_
          refine lv_iload_n hx hb dX1_countOf_57 rfl (lv_at hl 1 rfl) ?_
          refine lv_icmp_ne (tgt := 73) hx hb dX1_countOf_58 (by decide) (fun hc => ?_) (fun hc => ?_)
          · replace hw := hw.1 hc
            clear hc
            exact jn_73 _ x1 x3 x2 hB ls hw (lv_sub hl [0, 1, 3] rfl)
          · replace hw := hw.2 hc
            clear hc
            refine lv_aload_n hx hb dX1_countOf_61 rfl (lv_at hl 0 rfl) ?_
            refine lv_iload_n hx hb dX1_countOf_62 rfl (lv_at hl 3 rfl) ?_
            refine vp_callSi (W.runV (As := [.int x3]) (rest := [.int x2]) ⟨hx, hb, hml, hown, hts⟩ (cM_isHeap l dC dI h ad ca tc cl tr g x3 _ hw) (cwV 1 hts gX1_countOf_X1_isHeap rfl rfl rfl (by decide +kernel) ⟨Nat.le_of_ble_eq_true rfl, Nat.le_of_ble_eq_true rfl⟩) ⟨fun a U g mk q => by obtain ⟨q0, qP, qK⟩ := q; exact ⟨q0, qP, va_K.moved (u := U) (U := U.calling g mk a) (Vm.Alike.refl U.vm) qK⟩, va_recv hK hP (ci := 1) (q0 := 0) rfl rfl, fun U hU hW => ⟨rfl, by rw [hU]; exact hP, va_K.moved hW.alike hK⟩⟩ rfl rfl hl.1 rfl (lv_room (Nat.le_of_ble_eq_true rfl)) dX1_countOf_63 ⟨Nat.zero_le _, Nat.zero_le _⟩) (fun r_5 hw => ?_)
            try dsimp only at hw
            refine lv_if_eq (tgt := 73) hx hb dX1_countOf_66 (by decide) (fun hc => ?_) (fun hc => ?_)
            · replace hw := hw.1 hc
              clear hc
              exact jn_73 _ x1 x3 x2 hB ls hw (lv_sub hl [0, 1, 3] rfl)
            · replace hw := hw.2 hc
              clear hc
              refine lv_iconst (v := (1 : Int32)) hx hb dX1_countOf_69 (by decide) ?_
              refine lv_goto (tgt := 74) hx hb dX1_countOf_70 (by decide) ?_
              exact jn_74 _ x1 x3 x2 (1 : Int32) hB ls hw (lv_sub hl [0, 1, 3] rfl)
  subst hargs
  unfold wM_countOf at hw
  have hl := lv_entry ([.ref h, .int x1]) (n := 6) (Nat.le_of_ble_eq_true rfl)
  rw [lg_entry_eq]
  generalize (lg_sl ([.ref h, .int x1]) ++ List.replicate (6 - (lg_sl ([.ref h, .int x1])).length) Slot.unset).toArray = ls at hl ⊢
  have hl : lv_has ls 6 [(0, .ref h), (1, .int x1)] := hl
  refine lv_iconst (v := (0 : Int32)) hx hb dX1_countOf_0 (by decide) ?_
  refine lv_istore_n (lv' := [(2, .int (0 : Int32)), (0, .ref h), (1, .int x1)]) hx hb dX1_countOf_1 rfl hl (by decide) rfl (fun ls hl => ?_)
  refine lv_iconst (v := (0 : Int32)) hx hb dX1_countOf_2 (by decide) ?_
  refine lv_istore_n (lv' := [(3, .int (0 : Int32)), (2, .int (0 : Int32)), (0, .ref h), (1, .int x1)]) hx hb dX1_countOf_3 rfl hl (by decide) rfl (fun ls hl => ?_)
  obtain ⟨n_7, hw⟩ := hw
  exact lp_4 x1 n_7 (0 : Int32) (0 : Int32) ls hw (lv_sub hl [2, 3, 1, 0] rfl)
-- X1_counts
set_option maxHeartbeats 4000000 in
set_option maxRecDepth 100000 in
theorem cM_counts (l : Launch) (dC : Nat → ClassId) (dI : Nat → Nat → Nat) (h : Nat) (ad : Nat → Nat) (ca : Nat → ClassId) (tc cl : Int32) (tr : Int64) (g : Sg) (x1 : Int32) (P : Int32 → Prop) (hw : wM_counts P tc cl tr g x1) : Met l yX1_counts wsX1_counts ({ frames := 3, cells := 0, slots := 0, locals := 71 }) (va_Pc [.ref h, .int x1] (fun U => va_P (dC, dI) vwCl (ML h ad ca tc cl tr g) U.heap ∧ va_K (dC, dI) vwCl (MT ca) U)) (vp_Si P) 0 0 (fun _ => False) := by
  refine Met.ofW (cc := cX1_counts) (maxL := 2) (ret := (some .int)) (by decide) rfl ?_
  intro p e s m args below meth c s₁ B0 hml hv
  obtain ⟨hargs, hP, hK⟩ := hv
  have hx := B0.exec
  have hb := B0.bytes
  have hr := B0.returns
  have hts := atoms_spec (ws := wsX1_counts) B0.pre
  have hown : s.vm.findClass RX1 = some m.cls := findClass_of_methodNamed B0.named
  have hlocks := B0.notSynchronized
  have inw : ∀ w ∈ wsX10, w ∈ wsX1_counts := fun w h => List.mem_cons_of_mem _ (List.mem_append_right _ h)
  have f7 : (Cond.fieldLink RX1 7 "FlipHeapsModel" "things" "I").before args s = true := hts _ (by decide +kernel)
  subst hargs
  unfold wM_counts at hw
  have hl := lv_entry ([.ref h, .int x1]) (n := 2) (Nat.le_of_ble_eq_true rfl)
  rw [lg_entry_eq]
  generalize (lg_sl ([.ref h, .int x1]) ++ List.replicate (2 - (lg_sl ([.ref h, .int x1])).length) Slot.unset).toArray = ls at hl ⊢
  have hl : lv_has ls 2 [(0, .ref h), (1, .int x1)] := hl
  refine lv_iload_n hx hb dX1_counts_0 rfl (lv_at hl 1 rfl) ?_
  refine lv_iconst (v := (0 : Int32)) hx hb dX1_counts_1 (by decide) ?_
  refine lv_aload_n hx hb dX1_counts_2 rfl (lv_at hl 0 rfl) ?_
  refine va_get (D := (dC, dI)) (ci := 1) (C := RX1) (T := TX1) (N := 9) hx hb hts inw hown hK hP 0 rfl rfl 0 (by decide) f7 (fun _ h9 => h9) rfl dX1_counts_3 ?_
  refine vp_callSi (W.runS (As := [.int x1, .int (0 : Int32), .int tc]) (rest := []) ⟨hx, hb, hml, hown, hts⟩ (cM_in l x1 (0 : Int32) tc _ hw) (va_cwS 3 hts gX1_counts_X1_in rfl rfl rfl (by decide +kernel) ⟨Nat.le_of_ble_eq_true rfl, Nat.le_of_ble_eq_true rfl⟩) ⟨fun a U g mk q => q, fun U hU hW => ⟨rfl, trivial⟩⟩ rfl rfl hl.1 rfl (lv_room (Nat.le_of_ble_eq_true rfl)) dX1_counts_6 ⟨Nat.zero_le _, Nat.zero_le _⟩) (fun r_1 hw => ?_)
  try dsimp only at hw
  refine lv_if_eq (tgt := 20) hx hb dX1_counts_9 (by decide) (fun hc => ?_) (fun hc => ?_)
  · replace hw := hw.1 hc
    clear hc
    refine lv_iconst (v := (-1 : Int32)) hx hb dX1_counts_20 (by decide) ?_
    exact W.iret (v := (-1 : Int32)) hx hb hr (fun t ht hW => ⟨_, rfl, hw, ht⟩) (fun q h => absurd h List.not_mem_nil) dX1_counts_21
  · replace hw := hw.2 hc
    clear hc
    refine lv_aload_n hx hb dX1_counts_12 rfl (lv_at hl 0 rfl) ?_
    refine lv_iload_n hx hb dX1_counts_13 rfl (lv_at hl 1 rfl) ?_
    refine vp_callSi (W.runV (As := [.int x1]) (rest := []) ⟨hx, hb, hml, hown, hts⟩ (cM_countOf l dC dI h ad ca tc cl tr g x1 _ hw) (cwV 1 hts gX1_counts_X1_countOf rfl rfl rfl (by decide +kernel) ⟨Nat.le_of_ble_eq_true rfl, Nat.le_of_ble_eq_true rfl⟩) ⟨fun a U g mk q => by obtain ⟨q0, qP, qK⟩ := q; exact ⟨q0, qP, va_K.moved (u := U) (U := U.calling g mk a) (Vm.Alike.refl U.vm) qK⟩, va_recv hK hP (ci := 1) (q0 := 0) rfl rfl, fun U hU hW => ⟨rfl, by rw [hU]; exact hP, va_K.moved hW.alike hK⟩⟩ rfl rfl hl.1 rfl (lv_room (Nat.le_of_ble_eq_true rfl)) dX1_counts_14 ⟨Nat.zero_le _, Nat.zero_le _⟩) (fun r_2 hw => ?_)
    try dsimp only at hw
    refine lv_goto (tgt := 21) hx hb dX1_counts_17 (by decide) ?_
    exact W.iret (v := r_2) hx hb hr (fun t ht hW => ⟨_, rfl, hw, ht⟩) (fun q h => absurd h List.not_mem_nil) dX1_counts_21
-- X1_at
set_option maxHeartbeats 4000000 in
set_option maxRecDepth 100000 in
theorem cM_at (l : Launch) (dC : Nat → ClassId) (dI : Nat → Nat → Nat) (h : Nat) (ad : Nat → Nat) (ca : Nat → ClassId) (sz : Nat) (tc cl : Int32) (tr : Int64) (g : Sg) (x1 : Int32) (P : Int32 → Sg → Prop) (hw : wM_at P tc cl tr g x1) : Met l yX1_at wsX1_at ({ frames := 3, cells := 0, slots := 0, locals := 71 }) (va_Pc [.ref h, .int x1] (fun U => U.heap.size = sz ∧ va_P (dC, dI) vwCl (ML h ad ca tc cl tr g) U.heap ∧ va_K (dC, dI) vwCl (MT ca) U ∧ va_D (fun _ => True) (ML h ad ca tc cl tr g))) (va_Qi (fun (r : Int32) (u : Sg) => P r u) (at_M1 dC dI (va_A (ML h ad ca tc cl tr g) sz) h ad ca tc cl tr) (va_A (ML h ad ca tc cl tr g) sz)) 0 0 (va_A (ML h ad ca tc cl tr g) sz) := by
  refine Met.ofW (cc := cX1_at) (maxL := 3) (ret := (some .int)) (by decide) rfl ?_
  intro p e s m args below meth c s₁ B0 hml hv
  obtain ⟨hargs, hsz, hP, hK, hD0⟩ := hv
  have hx := B0.exec
  have hb := B0.bytes
  have hr := B0.returns
  have hts := atoms_spec (ws := wsX1_at) B0.pre
  have hown : s.vm.findClass RX1 = some m.cls := findClass_of_methodNamed B0.named
  have hlocks := B0.notSynchronized
  have inw : ∀ w ∈ wsX10, w ∈ wsX1_at := fun w h => List.mem_cons_of_mem _ (List.mem_append_right _ h)
  have f7 : (Cond.fieldLink RX1 7 "FlipHeapsModel" "things" "I").before args s = true := hts _ (by decide +kernel)
  have f30 : (Cond.fieldLink RX1 30 "FlipHeapsModel" "rest" "[I").before args s = true := hts _ (by decide +kernel)
  have k106 : (Cond.constant RX1 106 (-1000001)).before args s = true := hts _ (by decide +kernel)
  have k44 : (Cond.constant RX1 44 (-1000000)).before args s = true := hts _ (by decide +kernel)
  subst hsz
  have hD := hD0.self (sz := s.heap.size)
  generalize hAe : va_A (ML h ad ca tc cl tr g) s.heap.size = A at hD ⊢
  have hA : ∀ q : Nat, s.heap.size ≤ q → A q := fun q h => by rw [← hAe]; exact Or.inr h
  clear hAe hD0
  have hS : va_S A s.heap s.heap [] := va_S.rf
  have lp_20 : ∀ (x1 : Int32) (K39 : Sg → Prop) (hK39 : ∀ (g : Sg) (H : Heap) (locs : List Loc) (ls : Array Slot), K39 g → va_P (dC, dI) vwCl (ML h ad ca tc cl tr g) H → va_D A (ML h ad ca tc cl tr g) → va_S A s.heap H locs → lv_has ls 3 [(0, .ref h), (1, .int x1)] → W p l e (headSpec wsX1_at ({ frames := 3, cells := 0, slots := 0, locals := 71 })).room s m args below meth c H locs 0 0 (MQ below (va_Qi (fun (r : Int32) (u : Sg) => P r u) (at_M1 dC dI A h ad ca tc cl tr) A) args s 0 0 A) (F0 m 39 ls [])), ∀ (n : Nat) (x2 : Int32) (g : Sg) (H : Heap) (locs : List Loc) (ls : Array Slot), Lp2 (wM_at_b20 P tc cl tr x1 K39) n x2 g → va_P (dC, dI) vwCl (ML h ad ca tc cl tr g) H → va_D A (ML h ad ca tc cl tr g) → va_S A s.heap H locs → lv_has ls 3 [(0, .ref h), (1, .int x1), (2, .int x2)] → W p l e (headSpec wsX1_at ({ frames := 3, cells := 0, slots := 0, locals := 71 })).room s m args below meth c H locs 0 0 (MQ below (va_Qi (fun (r : Int32) (u : Sg) => P r u) (at_M1 dC dI A h ad ca tc cl tr) A) args s 0 0 A) (F0 m 20 ls []) := by
    intro x1 K39 hK39
    intro n
    induction n with
    | zero => intro x2 g H locs ls hw; exact False.elim hw
    | succ n hB =>
      intro x2 g H locs ls hw hP hD hS hl
      replace hw : wM_at_b20 P tc cl tr x1 K39 (Lp2 (wM_at_b20 P tc cl tr x1 K39) n) x2 g := hw
      unfold wM_at_b20 at hw
      refine lv_iload_n hx hb dX1_at_20 rfl (lv_at hl 2 rfl) ?_
      refine lv_bipush (v := (6 : Int32)) hx hb dX1_at_21 (by decide) ?_
      refine lv_icmp_ge (tgt := 39) hx hb dX1_at_23 (by decide) (fun hc => ?_) (fun hc => ?_)
      · replace hw := hw.1 hc
        clear hc
        exact hK39 g H locs ls hw hP hD hS (lv_sub hl [0, 1] rfl)
      · replace hw := hw.2 hc
        clear hc
        refine lv_aload_n hx hb dX1_at_26 rfl (lv_at hl 0 rfl) ?_
        refine va_get (D := (dC, dI)) (ci := 1) (C := RX1) (T := TX1) (N := 9) hx hb hts inw hown hK hP 0 rfl rfl 8 (by decide) f30 (fun _ h9 => h9) rfl dX1_at_27 ?_
        refine lv_iload_n hx hb dX1_at_30 rfl (lv_at hl 2 rfl) ?_
        refine lv_iconst (v := (0 : Int32)) hx hb dX1_at_31 (by decide) ?_
        obtain ⟨hin, hw⟩ := hw
        refine va_iast hx hb hK hP hD hS 6 5 rfl rfl hin dX1_at_32 (fun H locs hP hD hS => ?_)
        obtain ⟨g_1, hg⟩ : ∃ z : Sg, z = up2 g 8 (x2).toNatClampNeg (0 : Int32) := ⟨_, rfl⟩
        replace hw := hw g_1 hg
        have hP : va_P (dC, dI) vwCl (ML h ad ca tc cl tr g_1) H := by rw [hg]; exact hP
        have hD : va_D A (ML h ad ca tc cl tr g_1) := by rw [hg]; exact hD
        clear hg
        refine lv_iinc (v := (x2 + 1)) (lv' := [(2, .int ((x2 + 1))), (0, .ref h), (1, .int x1)]) hx hb dX1_at_33 hl (k := 2) rfl rfl (by decide) rfl (fun ls hl => ?_)
        refine lv_goto (tgt := 20) hx hb dX1_at_36 (by decide) ?_
        exact hB (x2 + 1) g_1 H locs ls hw hP hD hS (lv_sub hl [1, 2, 0] rfl)
  have lp_41 : ∀ (x1 : Int32) (K71 : Sg → Prop) (hK71 : ∀ (g : Sg) (H : Heap) (locs : List Loc) (ls : Array Slot), K71 g → va_P (dC, dI) vwCl (ML h ad ca tc cl tr g) H → va_D A (ML h ad ca tc cl tr g) → va_S A s.heap H locs → lv_has ls 3 [(0, .ref h), (1, .int x1)] → W p l e (headSpec wsX1_at ({ frames := 3, cells := 0, slots := 0, locals := 71 })).room s m args below meth c H locs 0 0 (MQ below (va_Qi (fun (r : Int32) (u : Sg) => P r u) (at_M1 dC dI A h ad ca tc cl tr) A) args s 0 0 A) (F0 m 71 ls [])), ∀ (n : Nat) (x2 : Int32) (g : Sg) (H : Heap) (locs : List Loc) (ls : Array Slot), Lp2 (wM_at_b41 P tc cl tr x1 K71) n x2 g → va_P (dC, dI) vwCl (ML h ad ca tc cl tr g) H → va_D A (ML h ad ca tc cl tr g) → va_S A s.heap H locs → lv_has ls 3 [(0, .ref h), (1, .int x1), (2, .int x2)] → W p l e (headSpec wsX1_at ({ frames := 3, cells := 0, slots := 0, locals := 71 })).room s m args below meth c H locs 0 0 (MQ below (va_Qi (fun (r : Int32) (u : Sg) => P r u) (at_M1 dC dI A h ad ca tc cl tr) A) args s 0 0 A) (F0 m 41 ls []) := by
    intro x1 K71 hK71
    intro n
    induction n with
    | zero => intro x2 g H locs ls hw; exact False.elim hw
    | succ n hB =>
      intro x2 g H locs ls hw hP hD hS hl
      replace hw : wM_at_b41 P tc cl tr x1 K71 (Lp2 (wM_at_b41 P tc cl tr x1 K71) n) x2 g := hw
      unfold wM_at_b41 at hw
      refine lv_iload_n hx hb dX1_at_41 rfl (lv_at hl 2 rfl) ?_
      refine lv_aload_n hx hb dX1_at_42 rfl (lv_at hl 0 rfl) ?_
      refine va_get (D := (dC, dI)) (ci := 1) (C := RX1) (T := TX1) (N := 9) hx hb hts inw hown hK hP 0 rfl rfl 0 (by decide) f7 (fun _ h9 => h9) rfl dX1_at_43 ?_
      refine lv_icmp_gt (tgt := 71) hx hb dX1_at_46 (by decide) (fun hc => ?_) (fun hc => ?_)
      · replace hw := hw.1 hc
        clear hc
        exact hK71 g H locs ls hw hP hD hS (lv_sub hl [0, 1] rfl)
      · replace hw := hw.2 hc
        clear hc
        refine lv_aload_n hx hb dX1_at_49 rfl (lv_at hl 0 rfl) ?_
        refine va_get (D := (dC, dI)) (ci := 1) (C := RX1) (T := TX1) (N := 9) hx hb hts inw hown hK hP 0 rfl rfl 8 (by decide) f30 (fun _ h9 => h9) rfl dX1_at_50 ?_
        refine lv_iload_n hx hb dX1_at_53 rfl (lv_at hl 2 rfl) ?_
        refine lv_iload_n hx hb dX1_at_54 rfl (lv_at hl 1 rfl) ?_
        obtain ⟨hne, hw⟩ := hw
        refine lv_irem hx hb dX1_at_55 hne ?_
        refine lv_dup2_11 hx hb dX1_at_56 rfl rfl ?_
        obtain ⟨hin, hw⟩ := hw
        refine va_iald hx hb hK hP 6 5 rfl rfl hin dX1_at_57 ?_
        refine lv_aload_n hx hb dX1_at_58 rfl (lv_at hl 0 rfl) ?_
        refine lv_iload_n hx hb dX1_at_59 rfl (lv_at hl 2 rfl) ?_
        refine vp_callSi (W.runV (As := [.int x2]) (rest := [.int ((g 8 ((x2 - x2 / x1 * x1)).toNatClampNeg)), .int ((x2 - x2 / x1 * x1)), .ref (ad 8)]) ⟨hx, hb, hml, hown, hts⟩ (cM_countOf l dC dI h ad ca tc cl tr g x2 _ hw) (cwV 1 hts gX1_at_X1_countOf rfl rfl rfl (by decide +kernel) ⟨Nat.le_of_ble_eq_true rfl, Nat.le_of_ble_eq_true rfl⟩) ⟨fun a U g mk q => by obtain ⟨q0, qP, qK⟩ := q; exact ⟨q0, qP, va_K.moved (u := U) (U := U.calling g mk a) (Vm.Alike.refl U.vm) qK⟩, va_recv hK hP (ci := 1) (q0 := 0) rfl rfl, fun U hU hW => ⟨rfl, by rw [hU]; exact hP, va_K.moved hW.alike hK⟩⟩ rfl rfl hl.1 rfl (lv_room (Nat.le_of_ble_eq_true rfl)) dX1_at_60 ⟨Nat.zero_le _, Nat.zero_le _⟩) (fun r_2 hw => ?_)
        try dsimp only at hw
        refine lv_iadd hx hb dX1_at_63 ?_
        obtain ⟨hin, hw⟩ := hw
        refine va_iast hx hb hK hP hD hS 6 5 rfl rfl hin dX1_at_64 (fun H locs hP hD hS => ?_)
        obtain ⟨g_3, hg⟩ : ∃ z : Sg, z = up2 g 8 ((x2 - x2 / x1 * x1)).toNatClampNeg ((g 8 ((x2 - x2 / x1 * x1)).toNatClampNeg) + r_2) := ⟨_, rfl⟩
        replace hw := hw g_3 hg
        have hP : va_P (dC, dI) vwCl (ML h ad ca tc cl tr g_3) H := by rw [hg]; exact hP
        have hD : va_D A (ML h ad ca tc cl tr g_3) := by rw [hg]; exact hD
        clear hg
        refine lv_iinc (v := (x2 + 1)) (lv' := [(2, .int ((x2 + 1))), (0, .ref h), (1, .int x1)]) hx hb dX1_at_65 hl (k := 2) rfl rfl (by decide) rfl (fun ls hl => ?_)
        refine lv_goto (tgt := 41) hx hb dX1_at_68 (by decide) ?_
        exact hB (x2 + 1) g_3 H locs ls hw hP hD hS (lv_sub hl [1, 2, 0] rfl)
  subst hargs
  unfold wM_at at hw
  have hl := lv_entry ([.ref h, .int x1]) (n := 3) (Nat.le_of_ble_eq_true rfl)
  rw [lg_entry_eq]
  generalize (lg_sl ([.ref h, .int x1]) ++ List.replicate (3 - (lg_sl ([.ref h, .int x1])).length) Slot.unset).toArray = ls at hl ⊢
  have hl : lv_has ls 3 [(0, .ref h), (1, .int x1)] := hl
  obtain ⟨H, hHe⟩ : ∃ z : Heap, z = s.heap := ⟨_, rfl⟩
  obtain ⟨locs, hLe⟩ : ∃ z : List Loc, z = [] := ⟨_, rfl⟩
  have hS : va_S A s.heap H locs := by rw [hHe, hLe]; exact hS
  have hP : va_P (dC, dI) vwCl (ML h ad ca tc cl tr g) H := by rw [hHe]; exact hP
  have hgo : W p l e (headSpec wsX1_at ({ frames := 3, cells := 0, slots := 0, locals := 71 })).room s m ([.ref h, .int x1] : List Value).toArray below meth c H locs 0 0 (MQ below (va_Qi (fun (r : Int32) (u : Sg) => P r u) (at_M1 dC dI A h ad ca tc cl tr) A) ([.ref h, .int x1] : List Value).toArray s 0 0 A) (F0 m 0 ls []) := by
    clear hHe hLe
    refine lv_iload_n hx hb dX1_at_0 rfl (lv_at hl 1 rfl) ?_
    refine lv_iconst (v := (1 : Int32)) hx hb dX1_at_1 (by decide) ?_
    refine lv_bipush (v := (6 : Int32)) hx hb dX1_at_2 (by decide) ?_
    refine vp_callSi (W.runS (As := [.int x1, .int (1 : Int32), .int (6 : Int32)]) (rest := []) ⟨hx, hb, hml, hown, hts⟩ (cM_in l x1 (1 : Int32) (6 : Int32) _ hw) (va_cwS 3 hts gX1_at_X1_in rfl rfl rfl (by decide +kernel) ⟨Nat.le_of_ble_eq_true rfl, Nat.le_of_ble_eq_true rfl⟩) ⟨fun a U g mk q => q, fun U hU hW => ⟨rfl, trivial⟩⟩ rfl rfl hl.1 rfl (lv_room (Nat.le_of_ble_eq_true rfl)) dX1_at_4 ⟨Nat.zero_le _, Nat.zero_le _⟩) (fun r_4 hw => ?_)
    try dsimp only at hw
    refine lv_if_eq (tgt := 15) hx hb dX1_at_7 (by decide) (fun hc => ?_) (fun hc => ?_)
    · replace hw := hw.1 hc
      clear hc
      refine lv_ldc (v := (-1000001 : Int32)) hx hb hown k106 dX1_at_15 ?_
      exact W.iret (v := (-1000001 : Int32)) hx hb hr (fun t ht hW => ⟨⟨(-1000001 : Int32), g, rfl, hw, by rw [ht]; exact hP, va_K.moved hW.alike hK, hD⟩, hS.F ht⟩) hS.2.2 dX1_at_17
    · replace hw := hw.2 hc
      clear hc
      refine lv_iload_n hx hb dX1_at_10 rfl (lv_at hl 1 rfl) ?_
      refine lv_iconst (v := (5 : Int32)) hx hb dX1_at_11 (by decide) ?_
      refine lv_icmp_ne (tgt := 18) hx hb dX1_at_12 (by decide) (fun hc => ?_) (fun hc => ?_)
      · replace hw := hw.1 hc
        clear hc
        refine lv_iconst (v := (0 : Int32)) hx hb dX1_at_18 (by decide) ?_
        refine lv_istore_n (lv' := [(2, .int (0 : Int32)), (0, .ref h), (1, .int x1)]) hx hb dX1_at_19 rfl hl (by decide) rfl (fun ls hl => ?_)
        obtain ⟨n_8, hw⟩ := hw
        refine lp_20 x1 _ ?_ n_8 (0 : Int32) g H locs ls hw hP hD hS (lv_sub hl [1, 2, 0] rfl)
        · intro g_5 H locs ls hw hP hD hS hl
          try dsimp only at hw
          refine lv_iconst (v := (0 : Int32)) hx hb dX1_at_39 (by decide) ?_
          refine lv_istore_n (lv' := [(2, .int (0 : Int32)), (0, .ref h), (1, .int x1)]) hx hb dX1_at_40 rfl hl (by decide) rfl (fun ls hl => ?_)
          obtain ⟨n_7, hw⟩ := hw
          refine lp_41 x1 _ ?_ n_7 (0 : Int32) g_5 H locs ls hw hP hD hS (lv_sub hl [1, 2, 0] rfl)
          · intro g_6 H locs ls hw hP hD hS hl
            try dsimp only at hw
            refine lv_iload_n hx hb dX1_at_71 rfl (lv_at hl 1 rfl) ?_
            by_cases hc0 : x1 = 1
            · replace hw := hw.1 hc0
              refine lv_tableIn (off := 32) (tgt := 104) hx hb dX1_at_72 (by rw [hc0]; decide) (by rw [hc0]; decide) (by rw [hc0]; rfl) (by decide) ?_
              refine lv_aload_n hx hb dX1_at_104 rfl (lv_at hl 0 rfl) ?_
              refine va_get (D := (dC, dI)) (ci := 1) (C := RX1) (T := TX1) (N := 9) hx hb hts inw hown hK hP 0 rfl rfl 8 (by decide) f30 (fun _ h9 => h9) rfl dX1_at_105 ?_
              refine lv_iconst (v := (0 : Int32)) hx hb dX1_at_108 (by decide) ?_
              obtain ⟨hin, hw⟩ := hw
              refine va_iald hx hb hK hP 6 5 rfl rfl hin dX1_at_109 ?_
              exact W.iret (v := (g_6 8 ((0 : Int32)).toNatClampNeg)) hx hb hr (fun t ht hW => ⟨⟨(g_6 8 ((0 : Int32)).toNatClampNeg), g_6, rfl, hw, by rw [ht]; exact hP, va_K.moved hW.alike hK, hD⟩, hS.F ht⟩) hS.2.2 dX1_at_110
            by_cases hc1 : x1 = 2
            · replace hw := hw.2.1 hc1
              refine lv_tableIn (off := 39) (tgt := 111) hx hb dX1_at_72 (by rw [hc1]; decide) (by rw [hc1]; decide) (by rw [hc1]; rfl) (by decide) ?_
              refine lv_aload_n hx hb dX1_at_111 rfl (lv_at hl 0 rfl) ?_
              refine va_get (D := (dC, dI)) (ci := 1) (C := RX1) (T := TX1) (N := 9) hx hb hts inw hown hK hP 0 rfl rfl 8 (by decide) f30 (fun _ h9 => h9) rfl dX1_at_112 ?_
              refine lv_iconst (v := (0 : Int32)) hx hb dX1_at_115 (by decide) ?_
              obtain ⟨hin, hw⟩ := hw
              refine va_iald hx hb hK hP 6 5 rfl rfl hin dX1_at_116 ?_
              refine lv_aload_n hx hb dX1_at_117 rfl (lv_at hl 0 rfl) ?_
              refine va_get (D := (dC, dI)) (ci := 1) (C := RX1) (T := TX1) (N := 9) hx hb hts inw hown hK hP 0 rfl rfl 8 (by decide) f30 (fun _ h9 => h9) rfl dX1_at_118 ?_
              refine lv_iconst (v := (1 : Int32)) hx hb dX1_at_121 (by decide) ?_
              obtain ⟨hin, hw⟩ := hw
              refine va_iald hx hb hK hP 6 5 rfl rfl hin dX1_at_122 ?_
              refine lv_isub hx hb dX1_at_123 ?_
              exact W.iret (v := ((g_6 8 ((0 : Int32)).toNatClampNeg) - (g_6 8 ((1 : Int32)).toNatClampNeg))) hx hb hr (fun t ht hW => ⟨⟨((g_6 8 ((0 : Int32)).toNatClampNeg) - (g_6 8 ((1 : Int32)).toNatClampNeg)), g_6, rfl, hw, by rw [ht]; exact hP, va_K.moved hW.alike hK, hD⟩, hS.F ht⟩) hS.2.2 dX1_at_124
            by_cases hc2 : x1 = 3
            · replace hw := hw.2.2.1 hc2
              refine lv_tableIn (off := 53) (tgt := 125) hx hb dX1_at_72 (by rw [hc2]; decide) (by rw [hc2]; decide) (by rw [hc2]; rfl) (by decide) ?_
              refine lv_aload_n hx hb dX1_at_125 rfl (lv_at hl 0 rfl) ?_
              refine va_get (D := (dC, dI)) (ci := 1) (C := RX1) (T := TX1) (N := 9) hx hb hts inw hown hK hP 0 rfl rfl 8 (by decide) f30 (fun _ h9 => h9) rfl dX1_at_126 ?_
              refine lv_iconst (v := (1 : Int32)) hx hb dX1_at_129 (by decide) ?_
              obtain ⟨hin, hw⟩ := hw
              refine va_iald hx hb hK hP 6 5 rfl rfl hin dX1_at_130 ?_
              refine lv_aload_n hx hb dX1_at_131 rfl (lv_at hl 0 rfl) ?_
              refine va_get (D := (dC, dI)) (ci := 1) (C := RX1) (T := TX1) (N := 9) hx hb hts inw hown hK hP 0 rfl rfl 8 (by decide) f30 (fun _ h9 => h9) rfl dX1_at_132 ?_
              refine lv_iconst (v := (2 : Int32)) hx hb dX1_at_135 (by decide) ?_
              obtain ⟨hin, hw⟩ := hw
              refine va_iald hx hb hK hP 6 5 rfl rfl hin dX1_at_136 ?_
              refine lv_icmp_ne (tgt := 156) hx hb dX1_at_137 (by decide) (fun hc => ?_) (fun hc => ?_)
              · replace hw := hw.1 hc
                clear hc
                refine lv_ldc (v := (-1000000 : Int32)) hx hb hown k44 dX1_at_156 ?_
                exact W.iret (v := (-1000000 : Int32)) hx hb hr (fun t ht hW => ⟨⟨(-1000000 : Int32), g_6, rfl, hw, by rw [ht]; exact hP, va_K.moved hW.alike hK, hD⟩, hS.F ht⟩) hS.2.2 dX1_at_158
              · replace hw := hw.2 hc
                clear hc
                refine lv_aload_n hx hb dX1_at_140 rfl (lv_at hl 0 rfl) ?_
                refine va_get (D := (dC, dI)) (ci := 1) (C := RX1) (T := TX1) (N := 9) hx hb hts inw hown hK hP 0 rfl rfl 8 (by decide) f30 (fun _ h9 => h9) rfl dX1_at_141 ?_
                refine lv_iconst (v := (0 : Int32)) hx hb dX1_at_144 (by decide) ?_
                obtain ⟨hin, hw⟩ := hw
                refine va_iald hx hb hK hP 6 5 rfl rfl hin dX1_at_145 ?_
                refine lv_aload_n hx hb dX1_at_146 rfl (lv_at hl 0 rfl) ?_
                refine va_get (D := (dC, dI)) (ci := 1) (C := RX1) (T := TX1) (N := 9) hx hb hts inw hown hK hP 0 rfl rfl 8 (by decide) f30 (fun _ h9 => h9) rfl dX1_at_147 ?_
                refine lv_iconst (v := (2 : Int32)) hx hb dX1_at_150 (by decide) ?_
                obtain ⟨hin, hw⟩ := hw
                refine va_iald hx hb hK hP 6 5 rfl rfl hin dX1_at_151 ?_
                refine lv_isub hx hb dX1_at_152 ?_
                refine lv_goto (tgt := 158) hx hb dX1_at_153 (by decide) ?_
                exact W.iret (v := ((g_6 8 ((0 : Int32)).toNatClampNeg) - (g_6 8 ((2 : Int32)).toNatClampNeg))) hx hb hr (fun t ht hW => ⟨⟨((g_6 8 ((0 : Int32)).toNatClampNeg) - (g_6 8 ((2 : Int32)).toNatClampNeg)), g_6, rfl, hw, by rw [ht]; exact hP, va_K.moved hW.alike hK, hD⟩, hS.F ht⟩) hS.2.2 dX1_at_158
            by_cases hc3 : x1 = 4
            · replace hw := hw.2.2.2.1 hc3
              refine lv_tableIn (off := 87) (tgt := 159) hx hb dX1_at_72 (by rw [hc3]; decide) (by rw [hc3]; decide) (by rw [hc3]; rfl) (by decide) ?_
              refine lv_aload_n hx hb dX1_at_159 rfl (lv_at hl 0 rfl) ?_
              refine va_get (D := (dC, dI)) (ci := 1) (C := RX1) (T := TX1) (N := 9) hx hb hts inw hown hK hP 0 rfl rfl 8 (by decide) f30 (fun _ h9 => h9) rfl dX1_at_160 ?_
              refine lv_iconst (v := (1 : Int32)) hx hb dX1_at_163 (by decide) ?_
              obtain ⟨hin, hw⟩ := hw
              refine va_iald hx hb hK hP 6 5 rfl rfl hin dX1_at_164 ?_
              refine lv_aload_n hx hb dX1_at_165 rfl (lv_at hl 0 rfl) ?_
              refine va_get (D := (dC, dI)) (ci := 1) (C := RX1) (T := TX1) (N := 9) hx hb hts inw hown hK hP 0 rfl rfl 8 (by decide) f30 (fun _ h9 => h9) rfl dX1_at_166 ?_
              refine lv_iconst (v := (3 : Int32)) hx hb dX1_at_169 (by decide) ?_
              obtain ⟨hin, hw⟩ := hw
              refine va_iald hx hb hK hP 6 5 rfl rfl hin dX1_at_170 ?_
              refine lv_icmp_ne (tgt := 190) hx hb dX1_at_171 (by decide) (fun hc => ?_) (fun hc => ?_)
              · replace hw := hw.1 hc
                clear hc
                refine lv_ldc (v := (-1000000 : Int32)) hx hb hown k44 dX1_at_190 ?_
                exact W.iret (v := (-1000000 : Int32)) hx hb hr (fun t ht hW => ⟨⟨(-1000000 : Int32), g_6, rfl, hw, by rw [ht]; exact hP, va_K.moved hW.alike hK, hD⟩, hS.F ht⟩) hS.2.2 dX1_at_192
              · replace hw := hw.2 hc
                clear hc
                refine lv_aload_n hx hb dX1_at_174 rfl (lv_at hl 0 rfl) ?_
                refine va_get (D := (dC, dI)) (ci := 1) (C := RX1) (T := TX1) (N := 9) hx hb hts inw hown hK hP 0 rfl rfl 8 (by decide) f30 (fun _ h9 => h9) rfl dX1_at_175 ?_
                refine lv_iconst (v := (0 : Int32)) hx hb dX1_at_178 (by decide) ?_
                obtain ⟨hin, hw⟩ := hw
                refine va_iald hx hb hK hP 6 5 rfl rfl hin dX1_at_179 ?_
                refine lv_aload_n hx hb dX1_at_180 rfl (lv_at hl 0 rfl) ?_
                refine va_get (D := (dC, dI)) (ci := 1) (C := RX1) (T := TX1) (N := 9) hx hb hts inw hown hK hP 0 rfl rfl 8 (by decide) f30 (fun _ h9 => h9) rfl dX1_at_181 ?_
                refine lv_iconst (v := (2 : Int32)) hx hb dX1_at_184 (by decide) ?_
                obtain ⟨hin, hw⟩ := hw
                refine va_iald hx hb hK hP 6 5 rfl rfl hin dX1_at_185 ?_
                refine lv_isub hx hb dX1_at_186 ?_
                refine lv_goto (tgt := 192) hx hb dX1_at_187 (by decide) ?_
                exact W.iret (v := ((g_6 8 ((0 : Int32)).toNatClampNeg) - (g_6 8 ((2 : Int32)).toNatClampNeg))) hx hb hr (fun t ht hW => ⟨⟨((g_6 8 ((0 : Int32)).toNatClampNeg) - (g_6 8 ((2 : Int32)).toNatClampNeg)), g_6, rfl, hw, by rw [ht]; exact hP, va_K.moved hW.alike hK, hD⟩, hS.F ht⟩) hS.2.2 dX1_at_192
            replace hw := hw.2.2.2.2 hc0 hc1 hc2 hc3
            have hout : (x1).toInt < 1 ∨ 4 < (x1).toInt := sw_out (lo := 1) (n := 4) (fun k hk => by rcases (show k = 0 ∨ k = 1 ∨ k = 2 ∨ k = 3 by omega) with rfl | rfl | rfl | rfl <;> assumption)
            refine lv_tableOut (tgt := 193) hx hb dX1_at_72 hout (by decide) ?_
            refine lv_aload_n hx hb dX1_at_193 rfl (lv_at hl 0 rfl) ?_
            refine va_get (D := (dC, dI)) (ci := 1) (C := RX1) (T := TX1) (N := 9) hx hb hts inw hown hK hP 0 rfl rfl 8 (by decide) f30 (fun _ h9 => h9) rfl dX1_at_194 ?_
            refine lv_iconst (v := (1 : Int32)) hx hb dX1_at_197 (by decide) ?_
            obtain ⟨hin, hw⟩ := hw
            refine va_iald hx hb hK hP 6 5 rfl rfl hin dX1_at_198 ?_
            refine lv_aload_n hx hb dX1_at_199 rfl (lv_at hl 0 rfl) ?_
            refine va_get (D := (dC, dI)) (ci := 1) (C := RX1) (T := TX1) (N := 9) hx hb hts inw hown hK hP 0 rfl rfl 8 (by decide) f30 (fun _ h9 => h9) rfl dX1_at_200 ?_
            refine lv_iconst (v := (4 : Int32)) hx hb dX1_at_203 (by decide) ?_
            obtain ⟨hin, hw⟩ := hw
            refine va_iald hx hb hK hP 6 5 rfl rfl hin dX1_at_204 ?_
            refine lv_isub hx hb dX1_at_205 ?_
            refine lv_aload_n hx hb dX1_at_206 rfl (lv_at hl 0 rfl) ?_
            refine va_get (D := (dC, dI)) (ci := 1) (C := RX1) (T := TX1) (N := 9) hx hb hts inw hown hK hP 0 rfl rfl 8 (by decide) f30 (fun _ h9 => h9) rfl dX1_at_207 ?_
            refine lv_iconst (v := (2 : Int32)) hx hb dX1_at_210 (by decide) ?_
            obtain ⟨hin, hw⟩ := hw
            refine va_iald hx hb hK hP 6 5 rfl rfl hin dX1_at_211 ?_
            refine lv_iadd hx hb dX1_at_212 ?_
            refine lv_aload_n hx hb dX1_at_213 rfl (lv_at hl 0 rfl) ?_
            refine va_get (D := (dC, dI)) (ci := 1) (C := RX1) (T := TX1) (N := 9) hx hb hts inw hown hK hP 0 rfl rfl 8 (by decide) f30 (fun _ h9 => h9) rfl dX1_at_214 ?_
            refine lv_iconst (v := (5 : Int32)) hx hb dX1_at_217 (by decide) ?_
            obtain ⟨hin, hw⟩ := hw
            refine va_iald hx hb hK hP 6 5 rfl rfl hin dX1_at_218 ?_
            refine lv_isub hx hb dX1_at_219 ?_
            refine lv_if_ne (tgt := 253) hx hb dX1_at_220 (by decide) (fun hc => ?_) (fun hc => ?_)
            · replace hw := hw.1 hc
              clear hc
              refine lv_ldc (v := (-1000000 : Int32)) hx hb hown k44 dX1_at_253 ?_
              exact W.iret (v := (-1000000 : Int32)) hx hb hr (fun t ht hW => ⟨⟨(-1000000 : Int32), g_6, rfl, hw, by rw [ht]; exact hP, va_K.moved hW.alike hK, hD⟩, hS.F ht⟩) hS.2.2 dX1_at_255
            · replace hw := hw.2 hc
              clear hc
              refine lv_aload_n hx hb dX1_at_223 rfl (lv_at hl 0 rfl) ?_
              refine va_get (D := (dC, dI)) (ci := 1) (C := RX1) (T := TX1) (N := 9) hx hb hts inw hown hK hP 0 rfl rfl 8 (by decide) f30 (fun _ h9 => h9) rfl dX1_at_224 ?_
              refine lv_iconst (v := (0 : Int32)) hx hb dX1_at_227 (by decide) ?_
              obtain ⟨hin, hw⟩ := hw
              refine va_iald hx hb hK hP 6 5 rfl rfl hin dX1_at_228 ?_
              refine lv_aload_n hx hb dX1_at_229 rfl (lv_at hl 0 rfl) ?_
              refine va_get (D := (dC, dI)) (ci := 1) (C := RX1) (T := TX1) (N := 9) hx hb hts inw hown hK hP 0 rfl rfl 8 (by decide) f30 (fun _ h9 => h9) rfl dX1_at_230 ?_
              refine lv_iconst (v := (3 : Int32)) hx hb dX1_at_233 (by decide) ?_
              obtain ⟨hin, hw⟩ := hw
              refine va_iald hx hb hK hP 6 5 rfl rfl hin dX1_at_234 ?_
              refine lv_isub hx hb dX1_at_235 ?_
              refine lv_aload_n hx hb dX1_at_236 rfl (lv_at hl 0 rfl) ?_
              refine va_get (D := (dC, dI)) (ci := 1) (C := RX1) (T := TX1) (N := 9) hx hb hts inw hown hK hP 0 rfl rfl 8 (by decide) f30 (fun _ h9 => h9) rfl dX1_at_237 ?_
              refine lv_iconst (v := (2 : Int32)) hx hb dX1_at_240 (by decide) ?_
              obtain ⟨hin, hw⟩ := hw
              refine va_iald hx hb hK hP 6 5 rfl rfl hin dX1_at_241 ?_
              refine lv_isub hx hb dX1_at_242 ?_
              refine lv_aload_n hx hb dX1_at_243 rfl (lv_at hl 0 rfl) ?_
              refine va_get (D := (dC, dI)) (ci := 1) (C := RX1) (T := TX1) (N := 9) hx hb hts inw hown hK hP 0 rfl rfl 8 (by decide) f30 (fun _ h9 => h9) rfl dX1_at_244 ?_
              refine lv_iconst (v := (5 : Int32)) hx hb dX1_at_247 (by decide) ?_
              obtain ⟨hin, hw⟩ := hw
              refine va_iald hx hb hK hP 6 5 rfl rfl hin dX1_at_248 ?_
              refine lv_iadd hx hb dX1_at_249 ?_
              refine lv_goto (tgt := 255) hx hb dX1_at_250 (by decide) ?_
              exact W.iret (v := ((((g_6 8 ((0 : Int32)).toNatClampNeg) - (g_6 8 ((3 : Int32)).toNatClampNeg)) - (g_6 8 ((2 : Int32)).toNatClampNeg)) + (g_6 8 ((5 : Int32)).toNatClampNeg))) hx hb hr (fun t ht hW => ⟨⟨((((g_6 8 ((0 : Int32)).toNatClampNeg) - (g_6 8 ((3 : Int32)).toNatClampNeg)) - (g_6 8 ((2 : Int32)).toNatClampNeg)) + (g_6 8 ((5 : Int32)).toNatClampNeg)), g_6, rfl, hw, by rw [ht]; exact hP, va_K.moved hW.alike hK, hD⟩, hS.F ht⟩) hS.2.2 dX1_at_255
      · replace hw := hw.2 hc
        clear hc
        refine lv_ldc (v := (-1000001 : Int32)) hx hb hown k106 dX1_at_15 ?_
        exact W.iret (v := (-1000001 : Int32)) hx hb hr (fun t ht hW => ⟨⟨(-1000001 : Int32), g, rfl, hw, by rw [ht]; exact hP, va_K.moved hW.alike hK, hD⟩, hS.F ht⟩) hS.2.2 dX1_at_17
  rw [hHe, hLe] at hgo
  exact hgo
-- X1_stays
set_option maxHeartbeats 4000000 in
set_option maxRecDepth 100000 in
theorem cM_stays (l : Launch) (dC : Nat → ClassId) (dI : Nat → Nat → Nat) (h : Nat) (ad : Nat → Nat) (ca : Nat → ClassId) (tc cl : Int32) (tr : Int64) (g : Sg) (x1 : Int32) (x2 : Int32) (P : Int32 → Prop) (hw : wM_stays P tc cl tr g x1 x2) : Met l yX1_stays wsX1_stays ({ frames := 5, cells := 0, slots := 0, locals := 121 }) (va_Pc [.ref h, .int x1, .int x2] (fun U => va_P (dC, dI) vwCl (ML h ad ca tc cl tr g) U.heap ∧ va_K (dC, dI) vwCl (MT ca) U)) (vp_Si P) 0 0 (fun _ => False) := by
  refine Met.ofW (cc := cX1_stays) (maxL := 5) (ret := (some .int)) (by decide) rfl ?_
  intro p e s m args below meth c s₁ B0 hml hv
  obtain ⟨hargs, hP, hK⟩ := hv
  have hx := B0.exec
  have hb := B0.bytes
  have hr := B0.returns
  have hts := atoms_spec (ws := wsX1_stays) B0.pre
  have hown : s.vm.findClass RX1 = some m.cls := findClass_of_methodNamed B0.named
  have hlocks := B0.notSynchronized
  have inw : ∀ w ∈ wsX10, w ∈ wsX1_stays := fun w h => List.mem_cons_of_mem _ (List.mem_append_right _ h)
  have f7 : (Cond.fieldLink RX1 7 "FlipHeapsModel" "things" "I").before args s = true := hts _ (by decide +kernel)
  have jn_63 : ∀ (B : Int32 → Int32 → Prop) (x1 : Int32) (x2 : Int32) (x4 : Int32) (y0 : Int32) (y1 : Int32) (hB : ∀ (x3 : Int32) (x4 : Int32) (ls : Array Slot), B x3 x4 → lv_has ls 5 [(0, .ref h), (1, .int x1), (2, .int x2), (3, .int x3), (4, .int x4)] → W p l e (headSpec wsX1_stays ({ frames := 5, cells := 0, slots := 0, locals := 121 })).room s m args below meth c s.heap [] 0 0 (MQ below (vp_Si P) args s 0 0 (fun _ => False)) (F0 m 25 ls [])) (ls : Array Slot), wM_stays_j63 P tc cl tr g B x1 x2 x4 y0 y1 → lv_has ls 5 [(0, .ref h), (1, .int x1), (2, .int x2), (4, .int x4)] → W p l e (headSpec wsX1_stays ({ frames := 5, cells := 0, slots := 0, locals := 121 })).room s m args below meth c s.heap [] 0 0 (MQ below (vp_Si P) args s 0 0 (fun _ => False)) (F0 m 63 ls [.int y1, .int y0]) := by
    intro B x1 x2 x4 y0 y1 hB ls hw hl
    unfold wM_stays_j63 at hw
    refine lv_iadd hx hb dX1_stays_63 ?_
    refine lv_topi (fun x3_1 hv => ?_)
    replace hw := hw x3_1 hv
    clear hv
    refine lv_istore_n (lv' := [(3, .int x3_1), (0, .ref h), (1, .int x1), (2, .int x2), (4, .int x4)]) hx hb dX1_stays_64 rfl hl (by decide) rfl (fun ls hl => ?_)
    refine lv_iinc (v := (x4 + 1)) (lv' := [(4, .int ((x4 + 1))), (3, .int x3_1), (0, .ref h), (1, .int x1), (2, .int x2)]) hx hb dX1_stays_65 hl (k := 4) rfl rfl (by decide) rfl (fun ls hl => ?_)
    refine lv_goto (tgt := 25) hx hb dX1_stays_68 (by decide) ?_
    exact hB x3_1 (x4 + 1) ls hw (lv_sub hl [2, 3, 4, 1, 0] rfl)
  have jn_62 : ∀ (B : Int32 → Int32 → Prop) (x1 : Int32) (x2 : Int32) (x4 : Int32) (y0 : Int32) (hB : ∀ (x3 : Int32) (x4 : Int32) (ls : Array Slot), B x3 x4 → lv_has ls 5 [(0, .ref h), (1, .int x1), (2, .int x2), (3, .int x3), (4, .int x4)] → W p l e (headSpec wsX1_stays ({ frames := 5, cells := 0, slots := 0, locals := 121 })).room s m args below meth c s.heap [] 0 0 (MQ below (vp_Si P) args s 0 0 (fun _ => False)) (F0 m 25 ls [])) (ls : Array Slot), wM_stays_j62 P tc cl tr g B x1 x2 x4 y0 → lv_has ls 5 [(0, .ref h), (1, .int x1), (2, .int x2), (4, .int x4)] → W p l e (headSpec wsX1_stays ({ frames := 5, cells := 0, slots := 0, locals := 121 })).room s m args below meth c s.heap [] 0 0 (MQ below (vp_Si P) args s 0 0 (fun _ => False)) (F0 m 62 ls [.int y0]) := by
    intro B x1 x2 x4 y0 hB ls hw hl
    unfold wM_stays_j62 at hw
    refine lv_iconst (v := (0 : Int32)) hx hb dX1_stays_62 (by decide) ?_
    exact jn_63 _ x1 x2 x4 y0 (0 : Int32) hB ls hw (lv_sub hl [0, 1, 2, 3] rfl)
  have lp_25 : ∀ (x1 : Int32) (x2 : Int32), ∀ (n : Nat) (x3 : Int32) (x4 : Int32) (ls : Array Slot), Lp2 (wM_stays_b25 P tc cl tr g x1 x2) n x3 x4 → lv_has ls 5 [(0, .ref h), (1, .int x1), (2, .int x2), (3, .int x3), (4, .int x4)] → W p l e (headSpec wsX1_stays ({ frames := 5, cells := 0, slots := 0, locals := 121 })).room s m args below meth c s.heap [] 0 0 (MQ below (vp_Si P) args s 0 0 (fun _ => False)) (F0 m 25 ls []) := by
    intro x1 x2
    intro n
    induction n with
    | zero => intro x3 x4 ls hw; exact False.elim hw
    | succ n hB =>
      intro x3 x4 ls hw hl
      replace hw : wM_stays_b25 P tc cl tr g x1 x2 (Lp2 (wM_stays_b25 P tc cl tr g x1 x2) n) x3 x4 := hw
      unfold wM_stays_b25 at hw
      refine lv_iload hx hb dX1_stays_25 (lv_at hl 4 rfl) ?_
      refine lv_iconst (v := (1 : Int32)) hx hb dX1_stays_27 (by decide) ?_
      refine lv_aload_n hx hb dX1_stays_28 rfl (lv_at hl 0 rfl) ?_
      refine va_get (D := (dC, dI)) (ci := 1) (C := RX1) (T := TX1) (N := 9) hx hb hts inw hown hK hP 0 rfl rfl 0 (by decide) f7 (fun _ h9 => h9) rfl dX1_stays_29 ?_
      refine lv_ishl hx hb dX1_stays_32 ?_
      refine lv_icmp_ge (tgt := 71) hx hb dX1_stays_33 (by decide) (fun hc => ?_) (fun hc => ?_)
      · replace hw := hw.1 hc
        clear hc
        refine lv_iload_n hx hb dX1_stays_71 rfl (lv_at hl 3 rfl) ?_
        exact W.iret (v := x3) hx hb hr (fun t ht hW => ⟨_, rfl, hw, ht⟩) (fun q h => absurd h List.not_mem_nil) dX1_stays_72
      · replace hw := hw.2 hc
        clear hc
        refine lv_iload_n hx hb dX1_stays_36 rfl (lv_at hl 3 rfl) ?_
        refine lv_aload_n hx hb dX1_stays_37 rfl (lv_at hl 0 rfl) ?_
        refine lv_iload hx hb dX1_stays_38 (lv_at hl 4 rfl) ?_
        refine vp_callSi (W.runV (As := [.int x4]) (rest := [.int x3]) ⟨hx, hb, hml, hown, hts⟩ (cM_isHeap l dC dI h ad ca tc cl tr g x4 _ hw) (cwV 1 hts gX1_stays_X1_isHeap rfl rfl rfl (by decide +kernel) ⟨Nat.le_of_ble_eq_true rfl, Nat.le_of_ble_eq_true rfl⟩) ⟨fun a U g mk q => by obtain ⟨q0, qP, qK⟩ := q; exact ⟨q0, qP, va_K.moved (u := U) (U := U.calling g mk a) (Vm.Alike.refl U.vm) qK⟩, va_recv hK hP (ci := 1) (q0 := 0) rfl rfl, fun U hU hW => ⟨rfl, by rw [hU]; exact hP, va_K.moved hW.alike hK⟩⟩ rfl rfl hl.1 rfl (lv_room (Nat.le_of_ble_eq_true rfl)) dX1_stays_40 ⟨Nat.zero_le _, Nat.zero_le _⟩) (fun r_2 hw => ?_)
        try dsimp only at hw
        refine lv_if_eq (tgt := 62) hx hb dX1_stays_43 (by decide) (fun hc => ?_) (fun hc => ?_)
        · replace hw := hw.1 hc
          clear hc
          exact jn_62 _ x1 x2 x4 x3 hB ls hw (lv_sub hl [0, 1, 2, 4] rfl)
        · replace hw := hw.2 hc
          clear hc
          refine lv_iload_n hx hb dX1_stays_46 rfl (lv_at hl 2 rfl) ?_
          refine lv_aload_n hx hb dX1_stays_47 rfl (lv_at hl 0 rfl) ?_
          refine lv_iload hx hb dX1_stays_48 (lv_at hl 4 rfl) ?_
          refine lv_iload_n hx hb dX1_stays_50 rfl (lv_at hl 1 rfl) ?_
          refine vp_callSi (W.runV (As := [.int x4, .int x1]) (rest := [.int x2, .int x3]) ⟨hx, hb, hml, hown, hts⟩ (cM_orbitOf l dC dI h ad ca tc cl tr g x4 x1 _ hw) (cwV 2 hts gX1_stays_X1_orbitOf rfl rfl rfl (by decide +kernel) ⟨Nat.le_of_ble_eq_true rfl, Nat.le_of_ble_eq_true rfl⟩) ⟨fun a U g mk q => by obtain ⟨q0, qP, qK⟩ := q; exact ⟨q0, qP, va_K.moved (u := U) (U := U.calling g mk a) (Vm.Alike.refl U.vm) qK⟩, va_recv hK hP (ci := 1) (q0 := 0) rfl rfl, fun U hU hW => ⟨rfl, by rw [hU]; exact hP, va_K.moved hW.alike hK⟩⟩ rfl rfl hl.1 rfl (lv_room (Nat.le_of_ble_eq_true rfl)) dX1_stays_51 ⟨Nat.zero_le _, Nat.zero_le _⟩) (fun r_3 hw => ?_)
          try dsimp only at hw
          obtain ⟨hne, hw⟩ := hw
          refine lv_irem hx hb dX1_stays_54 hne ?_
          refine lv_if_ne (tgt := 62) hx hb dX1_stays_55 (by decide) (fun hc => ?_) (fun hc => ?_)
          · replace hw := hw.1 hc
            clear hc
            exact jn_62 _ x1 x2 x4 x3 hB ls hw (lv_sub hl [0, 1, 2, 4] rfl)
          · replace hw := hw.2 hc
            clear hc
            refine lv_iconst (v := (1 : Int32)) hx hb dX1_stays_58 (by decide) ?_
            refine lv_goto (tgt := 63) hx hb dX1_stays_59 (by decide) ?_
            exact jn_63 _ x1 x2 x4 x3 (1 : Int32) hB ls hw (lv_sub hl [0, 1, 2, 4] rfl)
  subst hargs
  unfold wM_stays at hw
  have hl := lv_entry ([.ref h, .int x1, .int x2]) (n := 5) (Nat.le_of_ble_eq_true rfl)
  rw [lg_entry_eq]
  generalize (lg_sl ([.ref h, .int x1, .int x2]) ++ List.replicate (5 - (lg_sl ([.ref h, .int x1, .int x2])).length) Slot.unset).toArray = ls at hl ⊢
  have hl : lv_has ls 5 [(0, .ref h), (1, .int x1), (2, .int x2)] := hl
  refine lv_iload_n hx hb dX1_stays_0 rfl (lv_at hl 1 rfl) ?_
  refine vp_callSi (W.runS (As := [.int x1]) (rest := []) ⟨hx, hb, hml, hown, hts⟩ (cM_isKind l x1 _ hw) (va_cwS 1 hts gX1_stays_X1_isKind rfl rfl rfl (by decide +kernel) ⟨Nat.le_of_ble_eq_true rfl, Nat.le_of_ble_eq_true rfl⟩) ⟨fun a U g mk q => q, fun U hU hW => ⟨rfl, trivial⟩⟩ rfl rfl hl.1 rfl (lv_room (Nat.le_of_ble_eq_true rfl)) dX1_stays_1 ⟨Nat.zero_le _, Nat.zero_le _⟩) (fun r_4 hw => ?_)
  try dsimp only at hw
  refine lv_if_eq (tgt := 18) hx hb dX1_stays_4 (by decide) (fun hc => ?_) (fun hc => ?_)
  · replace hw := hw.1 hc
    clear hc
    refine lv_iconst (v := (-1 : Int32)) hx hb dX1_stays_18 (by decide) ?_
    exact W.iret (v := (-1 : Int32)) hx hb hr (fun t ht hW => ⟨_, rfl, hw, ht⟩) (fun q h => absurd h List.not_mem_nil) dX1_stays_19
  · replace hw := hw.2 hc
    clear hc
    refine lv_iload_n hx hb dX1_stays_7 rfl (lv_at hl 2 rfl) ?_
    refine lv_iconst (v := (0 : Int32)) hx hb dX1_stays_8 (by decide) ?_
    refine lv_sipush (v := (1000 : Int32)) hx hb dX1_stays_9 (by decide) ?_
    refine vp_callSi (W.runS (As := [.int x2, .int (0 : Int32), .int (1000 : Int32)]) (rest := []) ⟨hx, hb, hml, hown, hts⟩ (cM_in l x2 (0 : Int32) (1000 : Int32) _ hw) (va_cwS 3 hts gX1_stays_X1_in rfl rfl rfl (by decide +kernel) ⟨Nat.le_of_ble_eq_true rfl, Nat.le_of_ble_eq_true rfl⟩) ⟨fun a U g mk q => q, fun U hU hW => ⟨rfl, trivial⟩⟩ rfl rfl hl.1 rfl (lv_room (Nat.le_of_ble_eq_true rfl)) dX1_stays_12 ⟨Nat.zero_le _, Nat.zero_le _⟩) (fun r_5 hw => ?_)
    try dsimp only at hw
    refine lv_if_ne (tgt := 20) hx hb dX1_stays_15 (by decide) (fun hc => ?_) (fun hc => ?_)
    · replace hw := hw.1 hc
      clear hc
      refine lv_iconst (v := (0 : Int32)) hx hb dX1_stays_20 (by decide) ?_
      refine lv_istore_n (lv' := [(3, .int (0 : Int32)), (0, .ref h), (1, .int x1), (2, .int x2)]) hx hb dX1_stays_21 rfl hl (by decide) rfl (fun ls hl => ?_)
      refine lv_iconst (v := (0 : Int32)) hx hb dX1_stays_22 (by decide) ?_
      refine lv_istore (lv' := [(4, .int (0 : Int32)), (3, .int (0 : Int32)), (0, .ref h), (1, .int x1), (2, .int x2)]) hx hb dX1_stays_23 hl (by decide) rfl (fun ls hl => ?_)
      obtain ⟨n_6, hw⟩ := hw
      exact lp_25 x1 x2 n_6 (0 : Int32) (0 : Int32) ls hw (lv_sub hl [2, 3, 4, 1, 0] rfl)
    · replace hw := hw.2 hc
      clear hc
      refine lv_iconst (v := (-1 : Int32)) hx hb dX1_stays_18 (by decide) ?_
      exact W.iret (v := (-1 : Int32)) hx hb hr (fun t ht hW => ⟨_, rfl, hw, ht⟩) (fun q h => absurd h List.not_mem_nil) dX1_stays_19
-- X1_count
set_option maxHeartbeats 4000000 in
set_option maxRecDepth 100000 in
theorem cM_count (l : Launch) (dC : Nat → ClassId) (dI : Nat → Nat → Nat) (h : Nat) (ad : Nat → Nat) (ca : Nat → ClassId) (tc cl : Int32) (tr : Int64) (g : Sg) (x1 : Int32) (P : Int32 → Prop) (hw : wM_count P tc cl tr g x1) : Met l yX1_count wsX1_count ({ frames := 0, cells := 0, slots := 0, locals := 0 }) (va_Pc [.ref h, .int x1] (fun U => va_P (dC, dI) vwCl (ML h ad ca tc cl tr g) U.heap ∧ va_K (dC, dI) vwCl (MT ca) U)) (vp_Si P) 0 0 (fun _ => False) := by
  refine Met.ofW (cc := cX1_count) (maxL := 4) (ret := (some .int)) (by decide) rfl ?_
  intro p e s m args below meth c s₁ B0 hml hv
  obtain ⟨hargs, hP, hK⟩ := hv
  have hx := B0.exec
  have hb := B0.bytes
  have hr := B0.returns
  have hts := atoms_spec (ws := wsX1_count) B0.pre
  have hown : s.vm.findClass RX1 = some m.cls := findClass_of_methodNamed B0.named
  have hlocks := B0.notSynchronized
  have inw : ∀ w ∈ wsX10, w ∈ wsX1_count := fun w h => List.mem_cons_of_mem _ (List.mem_append_right _ h)
  have f7 : (Cond.fieldLink RX1 7 "FlipHeapsModel" "things" "I").before args s = true := hts _ (by decide +kernel)
  have f13 : (Cond.fieldLink RX1 13 "FlipHeapsModel" "isBelow" "[Z").before args s = true := hts _ (by decide +kernel)
  have f33 : (Cond.fieldLink RX1 33 "FlipHeapsModel" "said" "I").before args s = true := hts _ (by decide +kernel)
  have jn_61 : ∀ (B : Int32 → Int32 → Prop) (x3 : Int32) (y0 : Int32) (y1 : Int32) (hB : ∀ (x2 : Int32) (x3 : Int32) (ls : Array Slot), B x2 x3 → lv_has ls 4 [(0, .ref h), (2, .int x2), (3, .int x3)] → W p l e (headSpec wsX1_count ({ frames := 0, cells := 0, slots := 0, locals := 0 })).room s m args below meth c s.heap [] 0 0 (MQ below (vp_Si P) args s 0 0 (fun _ => False)) (F0 m 40 ls [])) (ls : Array Slot), wM_count_j61 P tc cl tr g B x3 y0 y1 → lv_has ls 4 [(0, .ref h), (3, .int x3)] → W p l e (headSpec wsX1_count ({ frames := 0, cells := 0, slots := 0, locals := 0 })).room s m args below meth c s.heap [] 0 0 (MQ below (vp_Si P) args s 0 0 (fun _ => False)) (F0 m 61 ls [.int y1, .int y0]) := by
    intro B x3 y0 y1 hB ls hw hl
    unfold wM_count_j61 at hw
    refine lv_iadd hx hb dX1_count_61 ?_
    refine lv_topi (fun x2_1 hv => ?_)
    replace hw := hw x2_1 hv
    clear hv
    refine lv_istore_n (lv' := [(2, .int x2_1), (0, .ref h), (3, .int x3)]) hx hb dX1_count_62 rfl hl (by decide) rfl (fun ls hl => ?_)
    refine lv_iinc (v := (x3 + 1)) (lv' := [(3, .int ((x3 + 1))), (2, .int x2_1), (0, .ref h)]) hx hb dX1_count_63 hl (k := 2) rfl rfl (by decide) rfl (fun ls hl => ?_)
    refine lv_goto (tgt := 40) hx hb dX1_count_66 (by decide) ?_
    exact hB x2_1 (x3 + 1) ls hw (lv_sub hl [2, 1, 0] rfl)
  have lp_40 : ∀ (n : Nat) (x2 : Int32) (x3 : Int32) (ls : Array Slot), Lp2 (wM_count_b40 P tc cl tr g) n x2 x3 → lv_has ls 4 [(0, .ref h), (2, .int x2), (3, .int x3)] → W p l e (headSpec wsX1_count ({ frames := 0, cells := 0, slots := 0, locals := 0 })).room s m args below meth c s.heap [] 0 0 (MQ below (vp_Si P) args s 0 0 (fun _ => False)) (F0 m 40 ls []) := by
    intro n
    induction n with
    | zero => intro x2 x3 ls hw; exact False.elim hw
    | succ n hB =>
      intro x2 x3 ls hw hl
      replace hw : wM_count_b40 P tc cl tr g (Lp2 (wM_count_b40 P tc cl tr g) n) x2 x3 := hw
      unfold wM_count_b40 at hw
      refine lv_iload_n hx hb dX1_count_40 rfl (lv_at hl 2 rfl) ?_
      refine lv_bipush (v := (64 : Int32)) hx hb dX1_count_41 (by decide) ?_
      refine lv_icmp_ge (tgt := 69) hx hb dX1_count_43 (by decide) (fun hc => ?_) (fun hc => ?_)
      · replace hw := hw.1 hc
        clear hc
        refine lv_iload_n hx hb dX1_count_69 rfl (lv_at hl 1 rfl) ?_
        exact W.iret (v := x2) hx hb hr (fun t ht hW => ⟨_, rfl, hw, ht⟩) (fun q h => absurd h List.not_mem_nil) dX1_count_70
      · replace hw := hw.2 hc
        clear hc
        refine lv_iload_n hx hb dX1_count_46 rfl (lv_at hl 1 rfl) ?_
        refine lv_aload_n hx hb dX1_count_47 rfl (lv_at hl 0 rfl) ?_
        refine va_get (D := (dC, dI)) (ci := 1) (C := RX1) (T := TX1) (N := 9) hx hb hts inw hown hK hP 0 rfl rfl 1 (by decide) f13 (fun _ h9 => h9) rfl dX1_count_48 ?_
        refine lv_iload_n hx hb dX1_count_51 rfl (lv_at hl 2 rfl) ?_
        obtain ⟨hin, hw⟩ := hw
        refine va_zald hx hb hK hP 1 0 rfl rfl hin dX1_count_52 ?_
        refine lv_if_eq (tgt := 60) hx hb dX1_count_53 (by decide) (fun hc => ?_) (fun hc => ?_)
        · replace hw := hw.1 hc
          clear hc
          refine lv_iconst (v := (0 : Int32)) hx hb dX1_count_60 (by decide) ?_
          exact jn_61 _ x3 x2 (0 : Int32) hB ls hw (lv_sub hl [0, 2] rfl)
        · replace hw := hw.2 hc
          clear hc
          refine lv_iconst (v := (1 : Int32)) hx hb dX1_count_56 (by decide) ?_
          refine lv_goto (tgt := 61) hx hb dX1_count_57 (by decide) ?_
          exact jn_61 _ x3 x2 (1 : Int32) hB ls hw (lv_sub hl [0, 2] rfl)
  subst hargs
  unfold wM_count at hw
  have hl := lv_entry ([.ref h, .int x1]) (n := 4) (Nat.le_of_ble_eq_true rfl)
  rw [lg_entry_eq]
  generalize (lg_sl ([.ref h, .int x1]) ++ List.replicate (4 - (lg_sl ([.ref h, .int x1])).length) Slot.unset).toArray = ls at hl ⊢
  have hl : lv_has ls 4 [(0, .ref h), (1, .int x1)] := hl
  refine lv_iconst (v := (0 : Int32)) hx hb dX1_count_0 (by decide) ?_
  refine lv_istore_n (lv' := [(2, .int (0 : Int32)), (0, .ref h), (1, .int x1)]) hx hb dX1_count_1 rfl hl (by decide) rfl (fun ls hl => ?_)
  refine lv_iload_n hx hb dX1_count_2 rfl (lv_at hl 2 rfl) ?_
  by_cases hc0 : x1 = 0
  · replace hw := hw.1 hc0
    refine lv_tableIn (off := 25) (tgt := 28) hx hb dX1_count_3 (by rw [hc0]; decide) (by rw [hc0]; decide) (by rw [hc0]; rfl) (by decide) ?_
    refine lv_aload_n hx hb dX1_count_28 rfl (lv_at hl 1 rfl) ?_
    refine va_get (D := (dC, dI)) (ci := 1) (C := RX1) (T := TX1) (N := 9) hx hb hts inw hown hK hP 0 rfl rfl 0 (by decide) f7 (fun _ h9 => h9) rfl dX1_count_29 ?_
    exact W.iret (v := tc) hx hb hr (fun t ht hW => ⟨_, rfl, hw, ht⟩) (fun q h => absurd h List.not_mem_nil) dX1_count_32
  by_cases hc1 : x1 = 1
  · replace hw := hw.2.1 hc1
    refine lv_tableIn (off := 30) (tgt := 33) hx hb dX1_count_3 (by rw [hc1]; decide) (by rw [hc1]; decide) (by rw [hc1]; rfl) (by decide) ?_
    refine lv_aload_n hx hb dX1_count_33 rfl (lv_at hl 1 rfl) ?_
    refine va_get (D := (dC, dI)) (ci := 1) (C := RX1) (T := TX1) (N := 9) hx hb hts inw hown hK hP 0 rfl rfl 4 (by decide) f33 (fun _ h9 => h9) rfl dX1_count_34 ?_
    exact W.iret (v := cl) hx hb hr (fun t ht hW => ⟨_, rfl, hw, ht⟩) (fun q h => absurd h List.not_mem_nil) dX1_count_37
  by_cases hc2 : x1 = 2
  · replace hw := hw.2.2.1 hc2
    refine lv_tableIn (off := 35) (tgt := 38) hx hb dX1_count_3 (by rw [hc2]; decide) (by rw [hc2]; decide) (by rw [hc2]; rfl) (by decide) ?_
    refine lv_iconst (v := (0 : Int32)) hx hb dX1_count_38 (by decide) ?_
    refine lv_istore_n (lv' := [(3, .int (0 : Int32)), (2, .int (0 : Int32)), (0, .ref h), (1, .int x1)]) hx hb dX1_count_39 rfl hl (by decide) rfl (fun ls hl => ?_)
    obtain ⟨n_2, hw⟩ := hw
    exact lp_40 n_2 (0 : Int32) (0 : Int32) ls hw (lv_sub hl [2, 1, 0] rfl)
  replace hw := hw.2.2.2 hc0 hc1 hc2
  have hout : (x1).toInt < 0 ∨ 2 < (x1).toInt := sw_out (lo := 0) (n := 3) (fun k hk => by rcases (show k = 0 ∨ k = 1 ∨ k = 2 by omega) with rfl | rfl | rfl <;> assumption)
  refine lv_tableOut (tgt := 71) hx hb dX1_count_3 hout (by decide) ?_
  refine lv_iconst (v := (-1 : Int32)) hx hb dX1_count_71 (by decide) ?_
  exact W.iret (v := (-1 : Int32)) hx hb hr (fun t ht hW => ⟨_, rfl, hw, ht⟩) (fun q h => absurd h List.not_mem_nil) dX1_count_72
-- X1_trace
set_option maxHeartbeats 4000000 in
set_option maxRecDepth 100000 in
theorem cM_trace (l : Launch) (dC : Nat → ClassId) (dI : Nat → Nat → Nat) (h : Nat) (ad : Nat → Nat) (ca : Nat → ClassId) (tc cl : Int32) (tr : Int64) (g : Sg) (P : Int64 → Prop) (hw : wM_trace P tc cl tr g) : Met l yX1_trace wsX1_trace ({ frames := 0, cells := 0, slots := 0, locals := 0 }) (va_Pc [.ref h] (fun U => va_P (dC, dI) vwCl (ML h ad ca tc cl tr g) U.heap ∧ va_K (dC, dI) vwCl (MT ca) U)) (vp_Sl P) 0 0 (fun _ => False) := by
  refine Met.ofW (cc := cX1_trace) (maxL := 1) (ret := (some .long)) (by decide) rfl ?_
  intro p e s m args below meth c s₁ B0 hml hv
  obtain ⟨hargs, hP, hK⟩ := hv
  have hx := B0.exec
  have hb := B0.bytes
  have hr := B0.returns
  have hts := atoms_spec (ws := wsX1_trace) B0.pre
  have hown : s.vm.findClass RX1 = some m.cls := findClass_of_methodNamed B0.named
  have hlocks := B0.notSynchronized
  have inw : ∀ w ∈ wsX10, w ∈ wsX1_trace := fun w h => List.mem_cons_of_mem _ (List.mem_append_right _ h)
  have f71 : (Cond.fieldLink RX1 71 "FlipHeapsModel" "trace" "J").before args s = true := hts _ (by decide +kernel)
  subst hargs
  unfold wM_trace at hw
  have hl := lv_entry ([.ref h]) (n := 1) (Nat.le_of_ble_eq_true rfl)
  rw [lg_entry_eq]
  generalize (lg_sl ([.ref h]) ++ List.replicate (1 - (lg_sl ([.ref h])).length) Slot.unset).toArray = ls at hl ⊢
  have hl : lv_has ls 1 [(0, .ref h)] := hl
  refine lv_aload_n hx hb dX1_trace_0 rfl (lv_at hl 0 rfl) ?_
  refine va_get (D := (dC, dI)) (ci := 1) (C := RX1) (T := TX1) (N := 9) hx hb hts inw hown hK hP 0 rfl rfl 5 (by decide) f71 (fun _ h9 => h9) rfl dX1_trace_1 ?_
  exact W.lret (v := tr) hx hb hr (fun t ht hW => ⟨_, rfl, hw, ht⟩) (fun q h => absurd h List.not_mem_nil) dX1_trace_4
