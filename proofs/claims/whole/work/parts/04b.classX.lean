-- X0_isMeasureKind
set_option maxHeartbeats 4000000 in
set_option maxRecDepth 100000 in
theorem cX_isMeasureKind (l : Launch) (x0 : Int32) (P : Int32 → Prop) (hw : wX_isMeasureKind P x0) : Met l yX0_isMeasureKind wsX0_isMeasureKind ({ frames := 0, cells := 0, slots := 0, locals := 0 }) (va_Pc [.int x0] (fun _ => True)) (vp_Si P) 0 0 (fun _ => False) := by
  refine Met.ofW (cc := cX0_isMeasureKind) (maxL := 1) (ret := (some .boolean)) (by decide) rfl ?_
  intro p e s m args below meth c s₁ B0 hml hv
  obtain ⟨hargs, -⟩ := hv
  have hx := B0.exec
  have hb := B0.bytes
  have hr := B0.returns
  have hts := atoms_spec (ws := wsX0_isMeasureKind) B0.pre
  have hown : s.vm.findClass RX0 = some m.cls := findClass_of_methodNamed B0.named
  have hlocks := B0.notSynchronized
  subst hargs
  unfold wX_isMeasureKind at hw
  have hl := lv_entry ([.int x0]) (n := 1) (Nat.le_of_ble_eq_true rfl)
  rw [lg_entry_eq]
  generalize (lg_sl ([.int x0]) ++ List.replicate (1 - (lg_sl ([.int x0])).length) Slot.unset).toArray = ls at hl ⊢
  have hl : lv_has ls 1 [(0, .int x0)] := hl
  refine lv_iload_n hx hb dX0_isMeasureKind_0 rfl (lv_at hl 0 rfl) ?_
  refine lv_if_lt (tgt := 13) hx hb dX0_isMeasureKind_1 (by decide) (fun hc => ?_) (fun hc => ?_)
  · replace hw := hw.1 hc
    clear hc
    refine lv_iconst (v := (0 : Int32)) hx hb dX0_isMeasureKind_13 (by decide) ?_
    exact W.zret (v := (0 : Int32)) hx hb hr rfl (fun t ht hW => ⟨_, rfl, hw, ht⟩) (fun q h => absurd h List.not_mem_nil) dX0_isMeasureKind_14
  · replace hw := hw.2 hc
    clear hc
    refine lv_iload_n hx hb dX0_isMeasureKind_4 rfl (lv_at hl 0 rfl) ?_
    refine lv_iconst (v := (2 : Int32)) hx hb dX0_isMeasureKind_5 (by decide) ?_
    refine lv_icmp_gt (tgt := 13) hx hb dX0_isMeasureKind_6 (by decide) (fun hc => ?_) (fun hc => ?_)
    · replace hw := hw.1 hc
      clear hc
      refine lv_iconst (v := (0 : Int32)) hx hb dX0_isMeasureKind_13 (by decide) ?_
      exact W.zret (v := (0 : Int32)) hx hb hr rfl (fun t ht hW => ⟨_, rfl, hw, ht⟩) (fun q h => absurd h List.not_mem_nil) dX0_isMeasureKind_14
    · replace hw := hw.2 hc
      clear hc
      refine lv_iconst (v := (1 : Int32)) hx hb dX0_isMeasureKind_9 (by decide) ?_
      refine lv_goto (tgt := 14) hx hb dX0_isMeasureKind_10 (by decide) ?_
      exact W.zret (v := (1 : Int32)) hx hb hr rfl (fun t ht hW => ⟨_, rfl, hw, ht⟩) (fun q h => absurd h List.not_mem_nil) dX0_isMeasureKind_14
-- X0_traceOf
set_option maxHeartbeats 4000000 in
set_option maxRecDepth 100000 in
theorem cX_traceOf (l : Launch) (x0 : Int32) (P : Int32 → Prop) (hw : wX_traceOf P x0) : Met l yX0_traceOf wsX0_traceOf ({ frames := 0, cells := 0, slots := 0, locals := 0 }) (va_Pc [.int x0] (fun _ => True)) (vp_Si P) 0 0 (fun _ => False) := by
  refine Met.ofW (cc := cX0_traceOf) (maxL := 2) (ret := (some .int)) (by decide) rfl ?_
  intro p e s m args below meth c s₁ B0 hml hv
  obtain ⟨hargs, -⟩ := hv
  have hx := B0.exec
  have hb := B0.bytes
  have hr := B0.returns
  have hts := atoms_spec (ws := wsX0_traceOf) B0.pre
  have hown : s.vm.findClass RX0 = some m.cls := findClass_of_methodNamed B0.named
  have hlocks := B0.notSynchronized
  have jn_10 : ∀ (x0 : Int32) (x1 : Int32) (ls : Array Slot), wX_traceOf_j10 P x0 x1 → lv_has ls 2 [(0, .int x0), (1, .int x1)] → W p l e (headSpec wsX0_traceOf ({ frames := 0, cells := 0, slots := 0, locals := 0 })).room s m args below meth c s.heap [] 0 0 (MQ below (vp_Si P) args s 0 0 (fun _ => False)) (F0 m 10 ls []) := by
    intro x0 x1 ls hw hl
    unfold wX_traceOf_j10 at hw
    refine lv_iload_n hx hb dX0_traceOf_10 rfl (lv_at hl 0 rfl) ?_
    refine lv_iconst (v := (2 : Int32)) hx hb dX0_traceOf_11 (by decide) ?_
    refine lv_icmp_lt (tgt := 18) hx hb dX0_traceOf_12 (by decide) (fun hc => ?_) (fun hc => ?_)
    · replace hw := hw.1 hc
      clear hc
      refine lv_iload_n hx hb dX0_traceOf_18 rfl (lv_at hl 1 rfl) ?_
      exact W.iret (v := x1) hx hb hr (fun t ht hW => ⟨_, rfl, hw, ht⟩) (fun q h => absurd h List.not_mem_nil) dX0_traceOf_19
    · replace hw := hw.2 hc
      clear hc
      refine lv_iinc (v := (x1 + 100)) (lv' := [(1, .int ((x1 + 100))), (0, .int x0)]) hx hb dX0_traceOf_15 hl (k := 1) rfl rfl (by decide) rfl (fun ls hl => ?_)
      refine lv_iload_n hx hb dX0_traceOf_18 rfl (lv_at hl 0 rfl) ?_
      exact W.iret (v := (x1 + 100)) hx hb hr (fun t ht hW => ⟨_, rfl, hw, ht⟩) (fun q h => absurd h List.not_mem_nil) dX0_traceOf_19
  subst hargs
  unfold wX_traceOf at hw
  have hl := lv_entry ([.int x0]) (n := 2) (Nat.le_of_ble_eq_true rfl)
  rw [lg_entry_eq]
  generalize (lg_sl ([.int x0]) ++ List.replicate (2 - (lg_sl ([.int x0])).length) Slot.unset).toArray = ls at hl ⊢
  have hl : lv_has ls 2 [(0, .int x0)] := hl
  refine lv_iconst (v := (1 : Int32)) hx hb dX0_traceOf_0 (by decide) ?_
  refine lv_istore_n (lv' := [(1, .int (1 : Int32)), (0, .int x0)]) hx hb dX0_traceOf_1 rfl hl (by decide) rfl (fun ls hl => ?_)
  refine lv_iload_n hx hb dX0_traceOf_2 rfl (lv_at hl 1 rfl) ?_
  refine lv_iconst (v := (1 : Int32)) hx hb dX0_traceOf_3 (by decide) ?_
  refine lv_icmp_lt (tgt := 10) hx hb dX0_traceOf_4 (by decide) (fun hc => ?_) (fun hc => ?_)
  · replace hw := hw.1 hc
    clear hc
    exact jn_10 x0 (1 : Int32) ls hw (lv_sub hl [1, 0] rfl)
  · replace hw := hw.2 hc
    clear hc
    refine lv_iinc (v := ((1 : Int32) + 10)) (lv' := [(1, .int (((1 : Int32) + 10))), (0, .int x0)]) hx hb dX0_traceOf_7 hl (k := 0) rfl rfl (by decide) rfl (fun ls hl => ?_)
    exact jn_10 x0 ((1 : Int32) + 10) ls hw (lv_sub hl [1, 0] rfl)
-- J6_bitCount_0f7a4
set_option maxHeartbeats 4000000 in
set_option maxRecDepth 100000 in
theorem cJ_bitCount (l : Launch) (x0 : Int32) (P : Int32 → Prop) (hw : wJ_bitCount P x0) : Met l yJ6_bitCount_0f7a4 wsJ6_bitCount_0f7a4 ({ frames := 0, cells := 0, slots := 0, locals := 0 }) (va_Pc [.int x0] (fun _ => True)) (vp_Si P) 0 0 (fun _ => False) := by
  refine Met.ofW (cc := cJ6_bitCount_0f7a4) (maxL := 1) (ret := (some .int)) (by decide) rfl ?_
  intro p e s m args below meth c s₁ B0 hml hv
  obtain ⟨hargs, -⟩ := hv
  have hx := B0.exec
  have hb := B0.bytes
  have hr := B0.returns
  have hts := atoms_spec (ws := wsJ6_bitCount_0f7a4) B0.pre
  have hown : s.vm.findClass RJ6 = some m.cls := findClass_of_methodNamed B0.named
  have hlocks := B0.notSynchronized
  have k265 : (Cond.constant RJ6 265 (1431655765)).before args s = true := hts _ (by decide +kernel)
  have k266 : (Cond.constant RJ6 266 (858993459)).before args s = true := hts _ (by decide +kernel)
  have k267 : (Cond.constant RJ6 267 (252645135)).before args s = true := hts _ (by decide +kernel)
  subst hargs
  unfold wJ_bitCount at hw
  have hl := lv_entry ([.int x0]) (n := 1) (Nat.le_of_ble_eq_true rfl)
  rw [lg_entry_eq]
  generalize (lg_sl ([.int x0]) ++ List.replicate (1 - (lg_sl ([.int x0])).length) Slot.unset).toArray = ls at hl ⊢
  have hl : lv_has ls 1 [(0, .int x0)] := hl
  refine lv_iload_n hx hb dJ6_bitCount_0f7a4_0 rfl (lv_at hl 0 rfl) ?_
  refine lv_iload_n hx hb dJ6_bitCount_0f7a4_1 rfl (lv_at hl 0 rfl) ?_
  refine lv_iconst (v := (1 : Int32)) hx hb dJ6_bitCount_0f7a4_2 (by decide) ?_
  refine lv_iushr (v := ush x0 (1 : Int32)) hx hb dJ6_bitCount_0f7a4_3 rfl ?_
  refine lv_ldcw (v := (1431655765 : Int32)) hx hb hown k265 dJ6_bitCount_0f7a4_4 ?_
  refine lv_iand hx hb dJ6_bitCount_0f7a4_7 ?_
  refine lv_isub hx hb dJ6_bitCount_0f7a4_8 ?_
  refine lv_topi (fun x0_1 hv => ?_)
  replace hw := hw x0_1 hv
  clear hv
  refine lv_istore_n (lv' := [(0, .int x0_1)]) hx hb dJ6_bitCount_0f7a4_9 rfl hl (by decide) rfl (fun ls hl => ?_)
  refine lv_iload_n hx hb dJ6_bitCount_0f7a4_10 rfl (lv_at hl 0 rfl) ?_
  refine lv_ldcw (v := (858993459 : Int32)) hx hb hown k266 dJ6_bitCount_0f7a4_11 ?_
  refine lv_iand hx hb dJ6_bitCount_0f7a4_14 ?_
  refine lv_iload_n hx hb dJ6_bitCount_0f7a4_15 rfl (lv_at hl 0 rfl) ?_
  refine lv_iconst (v := (2 : Int32)) hx hb dJ6_bitCount_0f7a4_16 (by decide) ?_
  refine lv_iushr (v := ush x0_1 (2 : Int32)) hx hb dJ6_bitCount_0f7a4_17 rfl ?_
  refine lv_ldcw (v := (858993459 : Int32)) hx hb hown k266 dJ6_bitCount_0f7a4_18 ?_
  refine lv_iand hx hb dJ6_bitCount_0f7a4_21 ?_
  refine lv_iadd hx hb dJ6_bitCount_0f7a4_22 ?_
  refine lv_topi (fun x0_2 hv => ?_)
  replace hw := hw x0_2 hv
  clear hv
  refine lv_istore_n (lv' := [(0, .int x0_2)]) hx hb dJ6_bitCount_0f7a4_23 rfl hl (by decide) rfl (fun ls hl => ?_)
  refine lv_iload_n hx hb dJ6_bitCount_0f7a4_24 rfl (lv_at hl 0 rfl) ?_
  refine lv_iload_n hx hb dJ6_bitCount_0f7a4_25 rfl (lv_at hl 0 rfl) ?_
  refine lv_iconst (v := (4 : Int32)) hx hb dJ6_bitCount_0f7a4_26 (by decide) ?_
  refine lv_iushr (v := ush x0_2 (4 : Int32)) hx hb dJ6_bitCount_0f7a4_27 rfl ?_
  refine lv_iadd hx hb dJ6_bitCount_0f7a4_28 ?_
  refine lv_ldcw (v := (252645135 : Int32)) hx hb hown k267 dJ6_bitCount_0f7a4_29 ?_
  refine lv_iand hx hb dJ6_bitCount_0f7a4_32 ?_
  refine lv_topi (fun x0_3 hv => ?_)
  replace hw := hw x0_3 hv
  clear hv
  refine lv_istore_n (lv' := [(0, .int x0_3)]) hx hb dJ6_bitCount_0f7a4_33 rfl hl (by decide) rfl (fun ls hl => ?_)
  refine lv_iload_n hx hb dJ6_bitCount_0f7a4_34 rfl (lv_at hl 0 rfl) ?_
  refine lv_iload_n hx hb dJ6_bitCount_0f7a4_35 rfl (lv_at hl 0 rfl) ?_
  refine lv_bipush (v := (8 : Int32)) hx hb dJ6_bitCount_0f7a4_36 (by decide) ?_
  refine lv_iushr (v := ush x0_3 (8 : Int32)) hx hb dJ6_bitCount_0f7a4_38 rfl ?_
  refine lv_iadd hx hb dJ6_bitCount_0f7a4_39 ?_
  refine lv_topi (fun x0_4 hv => ?_)
  replace hw := hw x0_4 hv
  clear hv
  refine lv_istore_n (lv' := [(0, .int x0_4)]) hx hb dJ6_bitCount_0f7a4_40 rfl hl (by decide) rfl (fun ls hl => ?_)
  refine lv_iload_n hx hb dJ6_bitCount_0f7a4_41 rfl (lv_at hl 0 rfl) ?_
  refine lv_iload_n hx hb dJ6_bitCount_0f7a4_42 rfl (lv_at hl 0 rfl) ?_
  refine lv_bipush (v := (16 : Int32)) hx hb dJ6_bitCount_0f7a4_43 (by decide) ?_
  refine lv_iushr (v := ush x0_4 (16 : Int32)) hx hb dJ6_bitCount_0f7a4_45 rfl ?_
  refine lv_iadd hx hb dJ6_bitCount_0f7a4_46 ?_
  refine lv_topi (fun x0_5 hv => ?_)
  replace hw := hw x0_5 hv
  clear hv
  refine lv_istore_n (lv' := [(0, .int x0_5)]) hx hb dJ6_bitCount_0f7a4_47 rfl hl (by decide) rfl (fun ls hl => ?_)
  refine lv_iload_n hx hb dJ6_bitCount_0f7a4_48 rfl (lv_at hl 0 rfl) ?_
  refine lv_bipush (v := (63 : Int32)) hx hb dJ6_bitCount_0f7a4_49 (by decide) ?_
  refine lv_iand hx hb dJ6_bitCount_0f7a4_51 ?_
  exact W.iret (v := (x0_5 &&& (63 : Int32))) hx hb hr (fun t ht hW => ⟨_, rfl, hw, ht⟩) (fun q h => absurd h List.not_mem_nil) dJ6_bitCount_0f7a4_52
-- X0_weighed
set_option maxHeartbeats 4000000 in
set_option maxRecDepth 100000 in
theorem cX_weighed (l : Launch) (dC : Nat → ClassId) (dI : Nat → Nat → Nat) (h : Nat) (ad : Nat → Nat) (ca : Nat → ClassId) (tc cl : Int32) (tr : Int64) (g : Sg) (x1 : Int32) (P : Int32 → Prop) (hw : wX_weighed P tc cl tr g x1) : Met l yX0_weighed wsX0_weighed ({ frames := 1, cells := 0, slots := 0, locals := 21 }) (va_Pc [.ref h, .int x1] (fun U => va_P (dC, dI) vwCl (XL h ad ca tc cl tr g) U.heap ∧ va_K (dC, dI) vwCl (XT ca) U)) (vp_Si P) 0 0 (fun _ => False) := by
  refine Met.ofW (cc := cX0_weighed) (maxL := 4) (ret := (some .int)) (by decide) rfl ?_
  intro p e s m args below meth c s₁ B0 hml hv
  obtain ⟨hargs, hP, hK⟩ := hv
  have hx := B0.exec
  have hb := B0.bytes
  have hr := B0.returns
  have hts := atoms_spec (ws := wsX0_weighed) B0.pre
  have hown : s.vm.findClass RX0 = some m.cls := findClass_of_methodNamed B0.named
  have hlocks := B0.notSynchronized
  have inw : ∀ w ∈ wsX00, w ∈ wsX0_weighed := fun w h => List.mem_cons_of_mem _ (List.mem_append_right _ h)
  have f9 : (Cond.fieldLink RX0 9 "FlipHeaps" "thingCount" "I").before args s = true := hts _ (by decide +kernel)
  have f20 : (Cond.fieldLink RX0 20 "FlipHeaps" "weights" "[I").before args s = true := hts _ (by decide +kernel)
  have lp_7 : ∀ (x1 : Int32), ∀ (n : Nat) (x2 : Int32) (x3 : Int32) (ls : Array Slot), Lp2 (wX_weighed_b7 P tc cl tr g x1) n x2 x3 → lv_has ls 4 [(0, .ref h), (1, .int x1), (2, .int x2), (3, .int x3)] → W p l e (headSpec wsX0_weighed ({ frames := 1, cells := 0, slots := 0, locals := 21 })).room s m args below meth c s.heap [] 0 0 (MQ below (vp_Si P) args s 0 0 (fun _ => False)) (F0 m 7 ls []) := by
    intro x1
    intro n
    induction n with
    | zero => intro x2 x3 ls hw; exact False.elim hw
    | succ n hB =>
      intro x2 x3 ls hw hl
      replace hw : wX_weighed_b7 P tc cl tr g x1 (Lp2 (wX_weighed_b7 P tc cl tr g x1) n) x2 x3 := hw
      unfold wX_weighed_b7 at hw
      refine lv_iload_n hx hb dX0_weighed_7 rfl (lv_at hl 3 rfl) ?_
      refine lv_aload_n hx hb dX0_weighed_8 rfl (lv_at hl 0 rfl) ?_
      refine va_get (D := (dC, dI)) (ci := 0) (C := RX0) (T := TX0) (N := 13) hx hb hts inw hown hK hP 0 rfl rfl 0 (by decide) f9 (fun _ h9 => h9) rfl dX0_weighed_9 ?_
      refine lv_icmp_ge (tgt := 38) hx hb dX0_weighed_12 (by decide) (fun hc => ?_) (fun hc => ?_)
      · replace hw := hw.1 hc
        clear hc
        refine lv_iload_n hx hb dX0_weighed_38 rfl (lv_at hl 2 rfl) ?_
        exact W.iret (v := x2) hx hb hr (fun t ht hW => ⟨_, rfl, hw, ht⟩) (fun q h => absurd h List.not_mem_nil) dX0_weighed_39
      · replace hw := hw.2 hc
        clear hc
        refine lv_iload_n hx hb dX0_weighed_15 rfl (lv_at hl 1 rfl) ?_
        refine lv_iload_n hx hb dX0_weighed_16 rfl (lv_at hl 3 rfl) ?_
        refine vp_callSi (W.runS (As := [.int x1, .int x3]) (rest := []) ⟨hx, hb, hml, hown, hts⟩ (cX_has l x1 x3 _ hw) (va_cwS 2 hts gX0_weighed_X0_has rfl rfl rfl (by decide +kernel) ⟨Nat.le_of_ble_eq_true rfl, Nat.le_of_ble_eq_true rfl⟩) ⟨fun a U g mk q => q, fun U hU hW => ⟨rfl, trivial⟩⟩ rfl rfl hl.1 rfl (lv_room (Nat.le_of_ble_eq_true rfl)) dX0_weighed_17 ⟨Nat.zero_le _, Nat.zero_le _⟩) (fun r_1 hw => ?_)
        try dsimp only at hw
        refine lv_if_eq (tgt := 32) hx hb dX0_weighed_20 (by decide) (fun hc => ?_) (fun hc => ?_)
        · replace hw := hw.1 hc
          clear hc
          refine lv_iinc (v := (x3 + 1)) (lv' := [(3, .int ((x3 + 1))), (0, .ref h), (1, .int x1), (2, .int x2)]) hx hb dX0_weighed_32 hl (k := 3) rfl rfl (by decide) rfl (fun ls hl => ?_)
          refine lv_goto (tgt := 7) hx hb dX0_weighed_35 (by decide) ?_
          exact hB x2 (x3 + 1) ls hw (lv_sub hl [1, 2, 3, 0] rfl)
        · replace hw := hw.2 hc
          clear hc
          refine lv_iload_n hx hb dX0_weighed_23 rfl (lv_at hl 2 rfl) ?_
          refine lv_aload_n hx hb dX0_weighed_24 rfl (lv_at hl 0 rfl) ?_
          refine va_get (D := (dC, dI)) (ci := 0) (C := RX0) (T := TX0) (N := 13) hx hb hts inw hown hK hP 0 rfl rfl 5 (by decide) f20 (fun _ h9 => h9) rfl dX0_weighed_25 ?_
          refine lv_iload_n hx hb dX0_weighed_28 rfl (lv_at hl 3 rfl) ?_
          obtain ⟨hin, hw⟩ := hw
          refine va_iald hx hb hK hP 3 2 rfl rfl hin dX0_weighed_29 ?_
          refine lv_iadd hx hb dX0_weighed_30 ?_
          refine lv_topi (fun x2_2 hv => ?_)
          replace hw := hw x2_2 hv
          clear hv
          refine lv_istore_n (lv' := [(2, .int x2_2), (0, .ref h), (1, .int x1), (3, .int x3)]) hx hb dX0_weighed_31 rfl hl (by decide) rfl (fun ls hl => ?_)
          refine lv_iinc (v := (x3 + 1)) (lv' := [(3, .int ((x3 + 1))), (2, .int x2_2), (0, .ref h), (1, .int x1)]) hx hb dX0_weighed_32 hl (k := 3) rfl rfl (by decide) rfl (fun ls hl => ?_)
          refine lv_goto (tgt := 7) hx hb dX0_weighed_35 (by decide) ?_
          exact hB x2_2 (x3 + 1) ls hw (lv_sub hl [2, 3, 1, 0] rfl)
  subst hargs
  unfold wX_weighed at hw
  have hl := lv_entry ([.ref h, .int x1]) (n := 4) (Nat.le_of_ble_eq_true rfl)
  rw [lg_entry_eq]
  generalize (lg_sl ([.ref h, .int x1]) ++ List.replicate (4 - (lg_sl ([.ref h, .int x1])).length) Slot.unset).toArray = ls at hl ⊢
  have hl : lv_has ls 4 [(0, .ref h), (1, .int x1)] := hl
  refine lv_iload_n hx hb dX0_weighed_0 rfl (lv_at hl 1 rfl) ?_
  refine vp_callSi (W.runS (As := [.int x1]) (rest := []) ⟨hx, hb, hml, hown, hts⟩ (cJ_bitCount l x1 _ hw) (va_cwS 1 hts gX0_weighed_J6_bitCount_0f7a4 rfl rfl rfl (by decide +kernel) ⟨Nat.le_of_ble_eq_true rfl, Nat.le_of_ble_eq_true rfl⟩) ⟨fun a U g mk q => q, fun U hU hW => ⟨rfl, trivial⟩⟩ rfl rfl hl.1 rfl (lv_room (Nat.le_of_ble_eq_true rfl)) dX0_weighed_1 ⟨Nat.zero_le _, Nat.zero_le _⟩) (fun r_3 hw => ?_)
  try dsimp only at hw
  refine lv_istore_n (lv' := [(2, .int r_3), (0, .ref h), (1, .int x1)]) hx hb dX0_weighed_4 rfl hl (by decide) rfl (fun ls hl => ?_)
  refine lv_iconst (v := (0 : Int32)) hx hb dX0_weighed_5 (by decide) ?_
  refine lv_istore_n (lv' := [(3, .int (0 : Int32)), (2, .int r_3), (0, .ref h), (1, .int x1)]) hx hb dX0_weighed_6 rfl hl (by decide) rfl (fun ls hl => ?_)
  obtain ⟨n_4, hw⟩ := hw
  exact lp_7 x1 n_4 r_3 (0 : Int32) ls hw (lv_sub hl [2, 3, 1, 0] rfl)
-- X0_edged
set_option maxHeartbeats 4000000 in
set_option maxRecDepth 100000 in
theorem cX_edged (l : Launch) (dC : Nat → ClassId) (dI : Nat → Nat → Nat) (h : Nat) (ad : Nat → Nat) (ca : Nat → ClassId) (tc cl : Int32) (tr : Int64) (g : Sg) (x1 : Int32) (P : Int32 → Prop) (hw : wX_edged P tc cl tr g x1) : Met l yX0_edged wsX0_edged ({ frames := 2, cells := 0, slots := 0, locals := 44 }) (va_Pc [.ref h, .int x1] (fun U => va_P (dC, dI) vwCl (XL h ad ca tc cl tr g) U.heap ∧ va_K (dC, dI) vwCl (XT ca) U)) (vp_Si P) 0 0 (fun _ => False) := by
  refine Met.ofW (cc := cX0_edged) (maxL := 4) (ret := (some .int)) (by decide) rfl ?_
  intro p e s m args below meth c s₁ B0 hml hv
  obtain ⟨hargs, hP, hK⟩ := hv
  have hx := B0.exec
  have hb := B0.bytes
  have hr := B0.returns
  have hts := atoms_spec (ws := wsX0_edged) B0.pre
  have hown : s.vm.findClass RX0 = some m.cls := findClass_of_methodNamed B0.named
  have hlocks := B0.notSynchronized
  have inw : ∀ w ∈ wsX00, w ∈ wsX0_edged := fun w h => List.mem_cons_of_mem _ (List.mem_append_right _ h)
  have f9 : (Cond.fieldLink RX0 9 "FlipHeaps" "thingCount" "I").before args s = true := hts _ (by decide +kernel)
  have f17 : (Cond.fieldLink RX0 17 "FlipHeaps" "over" "[I").before args s = true := hts _ (by decide +kernel)
  have lp_8 : ∀ (x1 : Int32), ∀ (n : Nat) (x2 : Int32) (x3 : Int32) (ls : Array Slot), Lp2 (wX_edged_b8 P tc cl tr g x1) n x2 x3 → lv_has ls 4 [(0, .ref h), (1, .int x1), (2, .int x2), (3, .int x3)] → W p l e (headSpec wsX0_edged ({ frames := 2, cells := 0, slots := 0, locals := 44 })).room s m args below meth c s.heap [] 0 0 (MQ below (vp_Si P) args s 0 0 (fun _ => False)) (F0 m 8 ls []) := by
    intro x1
    intro n
    induction n with
    | zero => intro x2 x3 ls hw; exact False.elim hw
    | succ n hB =>
      intro x2 x3 ls hw hl
      replace hw : wX_edged_b8 P tc cl tr g x1 (Lp2 (wX_edged_b8 P tc cl tr g x1) n) x2 x3 := hw
      unfold wX_edged_b8 at hw
      refine lv_iload_n hx hb dX0_edged_8 rfl (lv_at hl 3 rfl) ?_
      refine lv_aload_n hx hb dX0_edged_9 rfl (lv_at hl 0 rfl) ?_
      refine va_get (D := (dC, dI)) (ci := 0) (C := RX0) (T := TX0) (N := 13) hx hb hts inw hown hK hP 0 rfl rfl 0 (by decide) f9 (fun _ h9 => h9) rfl dX0_edged_10 ?_
      refine lv_icmp_ge (tgt := 44) hx hb dX0_edged_13 (by decide) (fun hc => ?_) (fun hc => ?_)
      · replace hw := hw.1 hc
        clear hc
        refine lv_iload_n hx hb dX0_edged_44 rfl (lv_at hl 2 rfl) ?_
        exact W.iret (v := x2) hx hb hr (fun t ht hW => ⟨_, rfl, hw, ht⟩) (fun q h => absurd h List.not_mem_nil) dX0_edged_45
      · replace hw := hw.2 hc
        clear hc
        refine lv_iload_n hx hb dX0_edged_16 rfl (lv_at hl 1 rfl) ?_
        refine lv_iload_n hx hb dX0_edged_17 rfl (lv_at hl 3 rfl) ?_
        refine vp_callSi (W.runS (As := [.int x1, .int x3]) (rest := []) ⟨hx, hb, hml, hown, hts⟩ (cX_has l x1 x3 _ hw) (va_cwS 2 hts gX0_edged_X0_has rfl rfl rfl (by decide +kernel) ⟨Nat.le_of_ble_eq_true rfl, Nat.le_of_ble_eq_true rfl⟩) ⟨fun a U g mk q => q, fun U hU hW => ⟨rfl, trivial⟩⟩ rfl rfl hl.1 rfl (lv_room (Nat.le_of_ble_eq_true rfl)) dX0_edged_18 ⟨Nat.zero_le _, Nat.zero_le _⟩) (fun r_1 hw => ?_)
        try dsimp only at hw
        refine lv_if_eq (tgt := 38) hx hb dX0_edged_21 (by decide) (fun hc => ?_) (fun hc => ?_)
        · replace hw := hw.1 hc
          clear hc
          refine lv_iinc (v := (x3 + 1)) (lv' := [(3, .int ((x3 + 1))), (0, .ref h), (1, .int x1), (2, .int x2)]) hx hb dX0_edged_38 hl (k := 3) rfl rfl (by decide) rfl (fun ls hl => ?_)
          refine lv_goto (tgt := 8) hx hb dX0_edged_41 (by decide) ?_
          exact hB x2 (x3 + 1) ls hw (lv_sub hl [1, 2, 3, 0] rfl)
        · replace hw := hw.2 hc
          clear hc
          refine lv_aload_n hx hb dX0_edged_24 rfl (lv_at hl 0 rfl) ?_
          refine va_get (D := (dC, dI)) (ci := 0) (C := RX0) (T := TX0) (N := 13) hx hb hts inw hown hK hP 0 rfl rfl 4 (by decide) f17 (fun _ h9 => h9) rfl dX0_edged_25 ?_
          refine lv_iload_n hx hb dX0_edged_28 rfl (lv_at hl 3 rfl) ?_
          obtain ⟨hin, hw⟩ := hw
          refine va_iald hx hb hK hP 2 1 rfl rfl hin dX0_edged_29 ?_
          refine lv_iload_n hx hb dX0_edged_30 rfl (lv_at hl 1 rfl) ?_
          refine lv_iand hx hb dX0_edged_31 ?_
          refine lv_if_ne (tgt := 38) hx hb dX0_edged_32 (by decide) (fun hc => ?_) (fun hc => ?_)
          · replace hw := hw.1 hc
            clear hc
            refine lv_iinc (v := (x3 + 1)) (lv' := [(3, .int ((x3 + 1))), (0, .ref h), (1, .int x1), (2, .int x2)]) hx hb dX0_edged_38 hl (k := 3) rfl rfl (by decide) rfl (fun ls hl => ?_)
            refine lv_goto (tgt := 8) hx hb dX0_edged_41 (by decide) ?_
            exact hB x2 (x3 + 1) ls hw (lv_sub hl [1, 2, 3, 0] rfl)
          · replace hw := hw.2 hc
            clear hc
            refine lv_iinc (v := (x2 + 1)) (lv' := [(2, .int ((x2 + 1))), (0, .ref h), (1, .int x1), (3, .int x3)]) hx hb dX0_edged_35 hl (k := 2) rfl rfl (by decide) rfl (fun ls hl => ?_)
            refine lv_iinc (v := (x3 + 1)) (lv' := [(3, .int ((x3 + 1))), (2, .int ((x2 + 1))), (0, .ref h), (1, .int x1)]) hx hb dX0_edged_38 hl (k := 3) rfl rfl (by decide) rfl (fun ls hl => ?_)
            refine lv_goto (tgt := 8) hx hb dX0_edged_41 (by decide) ?_
            exact hB (x2 + 1) (x3 + 1) ls hw (lv_sub hl [2, 3, 1, 0] rfl)
  subst hargs
  unfold wX_edged at hw
  have hl := lv_entry ([.ref h, .int x1]) (n := 4) (Nat.le_of_ble_eq_true rfl)
  rw [lg_entry_eq]
  generalize (lg_sl ([.ref h, .int x1]) ++ List.replicate (4 - (lg_sl ([.ref h, .int x1])).length) Slot.unset).toArray = ls at hl ⊢
  have hl : lv_has ls 4 [(0, .ref h), (1, .int x1)] := hl
  refine lv_aload_n hx hb dX0_edged_0 rfl (lv_at hl 0 rfl) ?_
  refine lv_iload_n hx hb dX0_edged_1 rfl (lv_at hl 1 rfl) ?_
  refine vp_callSi (W.runV (As := [.int x1]) (rest := []) ⟨hx, hb, hml, hown, hts⟩ (cX_weighed l dC dI h ad ca tc cl tr g x1 _ hw) (cwV 1 hts gX0_edged_X0_weighed rfl rfl rfl (by decide +kernel) ⟨Nat.le_of_ble_eq_true rfl, Nat.le_of_ble_eq_true rfl⟩) ⟨fun a U g mk q => by obtain ⟨q0, qP, qK⟩ := q; exact ⟨q0, qP, va_K.moved (u := U) (U := U.calling g mk a) (Vm.Alike.refl U.vm) qK⟩, va_recv hK hP (ci := 0) (q0 := 0) rfl rfl, fun U hU hW => ⟨rfl, by rw [hU]; exact hP, va_K.moved hW.alike hK⟩⟩ rfl rfl hl.1 rfl (lv_room (Nat.le_of_ble_eq_true rfl)) dX0_edged_2 ⟨Nat.zero_le _, Nat.zero_le _⟩) (fun r_2 hw => ?_)
  try dsimp only at hw
  refine lv_istore_n (lv' := [(2, .int r_2), (0, .ref h), (1, .int x1)]) hx hb dX0_edged_5 rfl hl (by decide) rfl (fun ls hl => ?_)
  refine lv_iconst (v := (0 : Int32)) hx hb dX0_edged_6 (by decide) ?_
  refine lv_istore_n (lv' := [(3, .int (0 : Int32)), (2, .int r_2), (0, .ref h), (1, .int x1)]) hx hb dX0_edged_7 rfl hl (by decide) rfl (fun ls hl => ?_)
  obtain ⟨n_3, hw⟩ := hw
  exact lp_8 x1 n_3 r_2 (0 : Int32) ls hw (lv_sub hl [2, 3, 1, 0] rfl)
-- X0_measured
set_option maxHeartbeats 4000000 in
set_option maxRecDepth 100000 in
theorem cX_measured (l : Launch) (dC : Nat → ClassId) (dI : Nat → Nat → Nat) (h : Nat) (ad : Nat → Nat) (ca : Nat → ClassId) (tc cl : Int32) (tr : Int64) (g : Sg) (x1 : Int32) (x2 : Int32) (P : Int32 → Prop) (hw : wX_measured P tc cl tr g x1 x2) : Met l yX0_measured wsX0_measured ({ frames := 3, cells := 0, slots := 0, locals := 67 }) (va_Pc [.ref h, .int x1, .int x2] (fun U => va_P (dC, dI) vwCl (XL h ad ca tc cl tr g) U.heap ∧ va_K (dC, dI) vwCl (XT ca) U)) (vp_Si P) 0 0 (fun _ => False) := by
  refine Met.ofW (cc := cX0_measured) (maxL := 3) (ret := (some .int)) (by decide) rfl ?_
  intro p e s m args below meth c s₁ B0 hml hv
  obtain ⟨hargs, hP, hK⟩ := hv
  have hx := B0.exec
  have hb := B0.bytes
  have hr := B0.returns
  have hts := atoms_spec (ws := wsX0_measured) B0.pre
  have hown : s.vm.findClass RX0 = some m.cls := findClass_of_methodNamed B0.named
  have hlocks := B0.notSynchronized
  have inw : ∀ w ∈ wsX00, w ∈ wsX0_measured := fun w h => List.mem_cons_of_mem _ (List.mem_append_right _ h)
  subst hargs
  unfold wX_measured at hw
  have hl := lv_entry ([.ref h, .int x1, .int x2]) (n := 3) (Nat.le_of_ble_eq_true rfl)
  rw [lg_entry_eq]
  generalize (lg_sl ([.ref h, .int x1, .int x2]) ++ List.replicate (3 - (lg_sl ([.ref h, .int x1, .int x2])).length) Slot.unset).toArray = ls at hl ⊢
  have hl : lv_has ls 3 [(0, .ref h), (1, .int x1), (2, .int x2)] := hl
  refine lv_iload_n hx hb dX0_measured_0 rfl (lv_at hl 1 rfl) ?_
  refine lv_iconst (v := (2 : Int32)) hx hb dX0_measured_1 (by decide) ?_
  refine lv_icmp_ne (tgt := 11) hx hb dX0_measured_2 (by decide) (fun hc => ?_) (fun hc => ?_)
  · replace hw := hw.1 hc
    clear hc
    refine lv_iload_n hx hb dX0_measured_11 rfl (lv_at hl 1 rfl) ?_
    refine lv_iconst (v := (1 : Int32)) hx hb dX0_measured_12 (by decide) ?_
    refine lv_icmp_ne (tgt := 24) hx hb dX0_measured_13 (by decide) (fun hc => ?_) (fun hc => ?_)
    · replace hw := hw.1 hc
      clear hc
      refine lv_iload_n hx hb dX0_measured_24 rfl (lv_at hl 2 rfl) ?_
      refine vp_callSi (W.runS (As := [.int x2]) (rest := []) ⟨hx, hb, hml, hown, hts⟩ (cJ_bitCount l x2 _ hw) (va_cwS 1 hts gX0_measured_J6_bitCount_0f7a4 rfl rfl rfl (by decide +kernel) ⟨Nat.le_of_ble_eq_true rfl, Nat.le_of_ble_eq_true rfl⟩) ⟨fun a U g mk q => q, fun U hU hW => ⟨rfl, trivial⟩⟩ rfl rfl hl.1 rfl (lv_room (Nat.le_of_ble_eq_true rfl)) dX0_measured_25 ⟨Nat.zero_le _, Nat.zero_le _⟩) (fun r_1 hw => ?_)
      try dsimp only at hw
      exact W.iret (v := r_1) hx hb hr (fun t ht hW => ⟨_, rfl, hw, ht⟩) (fun q h => absurd h List.not_mem_nil) dX0_measured_28
    · replace hw := hw.2 hc
      clear hc
      refine lv_aload_n hx hb dX0_measured_16 rfl (lv_at hl 0 rfl) ?_
      refine lv_iload_n hx hb dX0_measured_17 rfl (lv_at hl 2 rfl) ?_
      refine vp_callSi (W.runV (As := [.int x2]) (rest := []) ⟨hx, hb, hml, hown, hts⟩ (cX_weighed l dC dI h ad ca tc cl tr g x2 _ hw) (cwV 1 hts gX0_measured_X0_weighed rfl rfl rfl (by decide +kernel) ⟨Nat.le_of_ble_eq_true rfl, Nat.le_of_ble_eq_true rfl⟩) ⟨fun a U g mk q => by obtain ⟨q0, qP, qK⟩ := q; exact ⟨q0, qP, va_K.moved (u := U) (U := U.calling g mk a) (Vm.Alike.refl U.vm) qK⟩, va_recv hK hP (ci := 0) (q0 := 0) rfl rfl, fun U hU hW => ⟨rfl, by rw [hU]; exact hP, va_K.moved hW.alike hK⟩⟩ rfl rfl hl.1 rfl (lv_room (Nat.le_of_ble_eq_true rfl)) dX0_measured_18 ⟨Nat.zero_le _, Nat.zero_le _⟩) (fun r_2 hw => ?_)
      try dsimp only at hw
      refine lv_goto (tgt := 28) hx hb dX0_measured_21 (by decide) ?_
      exact W.iret (v := r_2) hx hb hr (fun t ht hW => ⟨_, rfl, hw, ht⟩) (fun q h => absurd h List.not_mem_nil) dX0_measured_28
  · replace hw := hw.2 hc
    clear hc
    refine lv_aload_n hx hb dX0_measured_5 rfl (lv_at hl 0 rfl) ?_
    refine lv_iload_n hx hb dX0_measured_6 rfl (lv_at hl 2 rfl) ?_
    refine vp_callSi (W.runV (As := [.int x2]) (rest := []) ⟨hx, hb, hml, hown, hts⟩ (cX_edged l dC dI h ad ca tc cl tr g x2 _ hw) (cwV 1 hts gX0_measured_X0_edged rfl rfl rfl (by decide +kernel) ⟨Nat.le_of_ble_eq_true rfl, Nat.le_of_ble_eq_true rfl⟩) ⟨fun a U g mk q => by obtain ⟨q0, qP, qK⟩ := q; exact ⟨q0, qP, va_K.moved (u := U) (U := U.calling g mk a) (Vm.Alike.refl U.vm) qK⟩, va_recv hK hP (ci := 0) (q0 := 0) rfl rfl, fun U hU hW => ⟨rfl, by rw [hU]; exact hP, va_K.moved hW.alike hK⟩⟩ rfl rfl hl.1 rfl (lv_room (Nat.le_of_ble_eq_true rfl)) dX0_measured_7 ⟨Nat.zero_le _, Nat.zero_le _⟩) (fun r_3 hw => ?_)
    try dsimp only at hw
    exact W.iret (v := r_3) hx hb hr (fun t ht hW => ⟨_, rfl, hw, ht⟩) (fun q h => absurd h List.not_mem_nil) dX0_measured_10
-- X0_measure
set_option maxHeartbeats 4000000 in
set_option maxRecDepth 100000 in
theorem cX_measure (l : Launch) (dC : Nat → ClassId) (dI : Nat → Nat → Nat) (h : Nat) (ad : Nat → Nat) (ca : Nat → ClassId) (sz : Nat) (tc cl : Int32) (tr : Int64) (g : Sg) (x1 : Int32) (x2 : Int32) (P : Int32 → Int32 → Int32 → Int64 → Sg → Prop) (hw : wX_measure P tc cl tr g x1 x2) : Met l yX0_measure wsX0_measure ({ frames := 4, cells := 0, slots := 0, locals := 89 }) (va_Pc [.ref h, .int x1, .int x2] (fun U => U.heap.size = sz ∧ va_P (dC, dI) vwCl (XL h ad ca tc cl tr g) U.heap ∧ va_K (dC, dI) vwCl (XT ca) U ∧ va_D (fun _ => True) (XL h ad ca tc cl tr g))) (va_Qi (fun (r : Int32) (u : Int32 × Int32 × Int64 × Sg) => P r u.1 u.2.1 u.2.2.1 u.2.2.2) (at_X2 dC dI (va_A (XL h ad ca tc cl tr g) sz) h ad ca) (va_A (XL h ad ca tc cl tr g) sz)) 0 0 (va_A (XL h ad ca tc cl tr g) sz) := by
  refine Met.ofW (cc := cX0_measure) (maxL := 3) (ret := (some .int)) (by decide) rfl ?_
  intro p e s m args below meth c s₁ B0 hml hv
  obtain ⟨hargs, hsz, hP, hK, hD0⟩ := hv
  have hx := B0.exec
  have hb := B0.bytes
  have hr := B0.returns
  have hts := atoms_spec (ws := wsX0_measure) B0.pre
  have hown : s.vm.findClass RX0 = some m.cls := findClass_of_methodNamed B0.named
  have hlocks := B0.notSynchronized
  have inw : ∀ w ∈ wsX00, w ∈ wsX0_measure := fun w h => List.mem_cons_of_mem _ (List.mem_append_right _ h)
  have f96 : (Cond.fieldLink RX0 96 "FlipHeaps" "traced" "J").before args s = true := hts _ (by decide +kernel)
  have k56 : (Cond.constant RX0 56 (-1000000)).before args s = true := hts _ (by decide +kernel)
  subst hsz
  have hD := hD0.self (sz := s.heap.size)
  generalize hAe : va_A (XL h ad ca tc cl tr g) s.heap.size = A at hD ⊢
  have hA : ∀ q : Nat, s.heap.size ≤ q → A q := fun q h => by rw [← hAe]; exact Or.inr h
  clear hAe hD0
  have hS : va_S A s.heap s.heap [] := va_S.rf
  subst hargs
  unfold wX_measure at hw
  have hl := lv_entry ([.ref h, .int x1, .int x2]) (n := 3) (Nat.le_of_ble_eq_true rfl)
  rw [lg_entry_eq]
  generalize (lg_sl ([.ref h, .int x1, .int x2]) ++ List.replicate (3 - (lg_sl ([.ref h, .int x1, .int x2])).length) Slot.unset).toArray = ls at hl ⊢
  have hl : lv_has ls 3 [(0, .ref h), (1, .int x1), (2, .int x2)] := hl
  obtain ⟨H, hHe⟩ : ∃ z : Heap, z = s.heap := ⟨_, rfl⟩
  obtain ⟨locs, hLe⟩ : ∃ z : List Loc, z = [] := ⟨_, rfl⟩
  have hS : va_S A s.heap H locs := by rw [hHe, hLe]; exact hS
  have hP : va_P (dC, dI) vwCl (XL h ad ca tc cl tr g) H := by rw [hHe]; exact hP
  have hgo : W p l e (headSpec wsX0_measure ({ frames := 4, cells := 0, slots := 0, locals := 89 })).room s m ([.ref h, .int x1, .int x2] : List Value).toArray below meth c H locs 0 0 (MQ below (va_Qi (fun (r : Int32) (u : Int32 × Int32 × Int64 × Sg) => P r u.1 u.2.1 u.2.2.1 u.2.2.2) (at_X2 dC dI A h ad ca) A) ([.ref h, .int x1, .int x2] : List Value).toArray s 0 0 A) (F0 m 0 ls []) := by
    clear hHe hLe
    refine lv_iload_n hx hb dX0_measure_0 rfl (lv_at hl 1 rfl) ?_
    refine vp_callSi (W.runS (As := [.int x1]) (rest := []) ⟨hx, hb, hml, hown, hts⟩ (cX_isMeasureKind l x1 _ hw) (va_cwS 1 hts gX0_measure_X0_isMeasureKind rfl rfl rfl (by decide +kernel) ⟨Nat.le_of_ble_eq_true rfl, Nat.le_of_ble_eq_true rfl⟩) ⟨fun a U g mk q => q, fun U hU hW => ⟨rfl, trivial⟩⟩ rfl rfl hl.1 rfl (lv_room (Nat.le_of_ble_eq_true rfl)) dX0_measure_1 ⟨Nat.zero_le _, Nat.zero_le _⟩) (fun r_1 hw => ?_)
    try dsimp only at hw
    refine lv_if_eq (tgt := 15) hx hb dX0_measure_4 (by decide) (fun hc => ?_) (fun hc => ?_)
    · replace hw := hw.1 hc
      clear hc
      refine lv_ldc (v := (-1000000 : Int32)) hx hb hown k56 dX0_measure_15 ?_
      exact W.iret (v := (-1000000 : Int32)) hx hb hr (fun t ht hW => ⟨⟨(-1000000 : Int32), (tc, cl, tr, g), rfl, hw, by rw [ht]; exact hP, va_K.moved hW.alike hK, hD⟩, hS.F ht⟩) hS.2.2 dX0_measure_17
    · replace hw := hw.2 hc
      clear hc
      refine lv_aload_n hx hb dX0_measure_7 rfl (lv_at hl 0 rfl) ?_
      refine lv_iload_n hx hb dX0_measure_8 rfl (lv_at hl 2 rfl) ?_
      refine vp_callSi (W.runV (As := [.int x2]) (rest := []) ⟨hx, hb, hml, hown, hts⟩ (cX_isHeap l dC dI h ad ca tc cl tr g x2 _ hw) (cwV 1 hts gX0_measure_X0_isHeap rfl rfl rfl (by decide +kernel) ⟨Nat.le_of_ble_eq_true rfl, Nat.le_of_ble_eq_true rfl⟩) ⟨fun a U g mk q => by obtain ⟨q0, qP, qK⟩ := q; exact ⟨q0, qP, va_K.moved (u := U) (U := U.calling g mk a) (Vm.Alike.refl U.vm) qK⟩, va_recv hK hP (ci := 0) (q0 := 0) rfl rfl, fun U hU hW => ⟨rfl, by rw [hU]; exact hP, va_K.moved hW.alike hK⟩⟩ rfl rfl hl.1 rfl (lv_room (Nat.le_of_ble_eq_true rfl)) dX0_measure_9 ⟨Nat.zero_le _, Nat.zero_le _⟩) (fun r_2 hw => ?_)
      try dsimp only at hw
      refine lv_if_ne (tgt := 18) hx hb dX0_measure_12 (by decide) (fun hc => ?_) (fun hc => ?_)
      · replace hw := hw.1 hc
        clear hc
        refine lv_aload_n hx hb dX0_measure_18 rfl (lv_at hl 0 rfl) ?_
        refine lv_dup hx hb dX0_measure_19 rfl ?_
        refine va_get (D := (dC, dI)) (ci := 0) (C := RX0) (T := TX0) (N := 13) hx hb hts inw hown hK hP 0 rfl rfl 2 (by decide) f96 (fun _ h9 => h9) rfl dX0_measure_20 ?_
        refine lv_iload_n hx hb dX0_measure_23 rfl (lv_at hl 1 rfl) ?_
        refine vp_callSi (W.runS (As := [.int x1]) (rest := [.long tr, .ref h]) ⟨hx, hb, hml, hown, hts⟩ (cX_traceOf l x1 _ hw) (va_cwS 1 hts gX0_measure_X0_traceOf rfl rfl rfl (by decide +kernel) ⟨Nat.le_of_ble_eq_true rfl, Nat.le_of_ble_eq_true rfl⟩) ⟨fun a U g mk q => q, fun U hU hW => ⟨rfl, trivial⟩⟩ rfl rfl hl.1 rfl (lv_room (Nat.le_of_ble_eq_true rfl)) dX0_measure_24 ⟨Nat.zero_le _, Nat.zero_le _⟩) (fun r_3 hw => ?_)
        try dsimp only at hw
        refine lv_i2l (v := Int32.toInt64 r_3) hx hb dX0_measure_27 rfl ?_
        refine lv_ladd hx hb dX0_measure_28 ?_
        refine lv_topl (fun tr_4 hv => ?_)
        replace hw := hw tr_4 hv
        clear hv
        refine va_put (D := (dC, dI)) (ci := 0) (v := .long tr_4) (ty := .long) (C := RX0) (T := TX0) (N := 13) hx hb hts inw tyX0 tyX0_ok nmX0 hown hK hP hD hS 0 rfl rfl 2 (by decide) f96 (fun _ h9 => h9) rfl (by decide +kernel) rfl rfl (Nat.le_of_ble_eq_true rfl) dX0_measure_29 (fun H locs hP hD hS => ?_)
        have hP : va_P (dC, dI) vwCl (XL h ad ca tc cl tr_4 g) H := hP
        have hD : va_D A (XL h ad ca tc cl tr_4 g) := hD
        refine lv_aload_n hx hb dX0_measure_32 rfl (lv_at hl 0 rfl) ?_
        refine lv_iload_n hx hb dX0_measure_33 rfl (lv_at hl 1 rfl) ?_
        refine lv_iload_n hx hb dX0_measure_34 rfl (lv_at hl 2 rfl) ?_
        refine vp_callSi (W.runV (As := [.int x1, .int x2]) (rest := []) ⟨hx, hb, hml, hown, hts⟩ (cX_measured l dC dI h ad ca tc cl tr_4 g x1 x2 _ hw) (cwV 2 hts gX0_measure_X0_measured rfl rfl rfl (by decide +kernel) ⟨Nat.le_of_ble_eq_true rfl, Nat.le_of_ble_eq_true rfl⟩) ⟨fun a U g mk q => by obtain ⟨q0, qP, qK⟩ := q; exact ⟨q0, qP, va_K.moved (u := U) (U := U.calling g mk a) (Vm.Alike.refl U.vm) qK⟩, va_recv hK hP (ci := 0) (q0 := 0) rfl rfl, fun U hU hW => ⟨rfl, by rw [hU]; exact hP, va_K.moved hW.alike hK⟩⟩ rfl rfl hl.1 rfl (lv_room (Nat.le_of_ble_eq_true rfl)) dX0_measure_35 ⟨Nat.zero_le _, Nat.zero_le _⟩) (fun r_5 hw => ?_)
        try dsimp only at hw
        exact W.iret (v := r_5) hx hb hr (fun t ht hW => ⟨⟨r_5, (tc, cl, tr_4, g), rfl, hw, by rw [ht]; exact hP, va_K.moved hW.alike hK, hD⟩, hS.F ht⟩) hS.2.2 dX0_measure_38
      · replace hw := hw.2 hc
        clear hc
        refine lv_ldc (v := (-1000000 : Int32)) hx hb hown k56 dX0_measure_15 ?_
        exact W.iret (v := (-1000000 : Int32)) hx hb hr (fun t ht hW => ⟨⟨(-1000000 : Int32), (tc, cl, tr, g), rfl, hw, by rw [ht]; exact hP, va_K.moved hW.alike hK, hD⟩, hS.F ht⟩) hS.2.2 dX0_measure_17
  rw [hHe, hLe] at hgo
  exact hgo
-- X0_sumOfOrbit
set_option maxHeartbeats 4000000 in
set_option maxRecDepth 100000 in
theorem cX_sumOfOrbit (l : Launch) (dC : Nat → ClassId) (dI : Nat → Nat → Nat) (h : Nat) (ad : Nat → Nat) (ca : Nat → ClassId) (tc cl : Int32) (tr : Int64) (g : Sg) (x1 : Int32) (x2 : Int32) (x3 : Int32) (x4 : Int32) (P : Int32 → Prop) (hw : wX_sumOfOrbit P tc cl tr g x1 x2 x3 x4) : Met l yX0_sumOfOrbit wsX0_sumOfOrbit ({ frames := 4, cells := 0, slots := 0, locals := 89 }) (va_Pc [.ref h, .int x1, .int x2, .int x3, .int x4] (fun U => va_P (dC, dI) vwCl (XL h ad ca tc cl tr g) U.heap ∧ va_K (dC, dI) vwCl (XT ca) U)) (vp_Si P) 0 0 (fun _ => False) := by
  refine Met.ofW (cc := cX0_sumOfOrbit) (maxL := 8) (ret := (some .int)) (by decide) rfl ?_
  intro p e s m args below meth c s₁ B0 hml hv
  obtain ⟨hargs, hP, hK⟩ := hv
  have hx := B0.exec
  have hb := B0.bytes
  have hr := B0.returns
  have hts := atoms_spec (ws := wsX0_sumOfOrbit) B0.pre
  have hown : s.vm.findClass RX0 = some m.cls := findClass_of_methodNamed B0.named
  have hlocks := B0.notSynchronized
  have inw : ∀ w ∈ wsX00, w ∈ wsX0_sumOfOrbit := fun w h => List.mem_cons_of_mem _ (List.mem_append_right _ h)
  have lp_9 : ∀ (x2 : Int32) (x3 : Int32) (x4 : Int32), ∀ (n : Nat) (x5 : Int32) (x6 : Int32) (x7 : Int32) (ls : Array Slot), Lp3 (wX_sumOfOrbit_b9 P tc cl tr g x2 x3 x4) n x5 x6 x7 → lv_has ls 8 [(0, .ref h), (2, .int x2), (3, .int x3), (4, .int x4), (5, .int x5), (6, .int x6), (7, .int x7)] → W p l e (headSpec wsX0_sumOfOrbit ({ frames := 4, cells := 0, slots := 0, locals := 89 })).room s m args below meth c s.heap [] 0 0 (MQ below (vp_Si P) args s 0 0 (fun _ => False)) (F0 m 9 ls []) := by
    intro x2 x3 x4
    intro n
    induction n with
    | zero => intro x5 x6 x7 ls hw; exact False.elim hw
    | succ n hB =>
      intro x5 x6 x7 ls hw hl
      replace hw : wX_sumOfOrbit_b9 P tc cl tr g x2 x3 x4 (Lp3 (wX_sumOfOrbit_b9 P tc cl tr g x2 x3 x4) n) x5 x6 x7 := hw
      unfold wX_sumOfOrbit_b9 at hw
      refine lv_iload hx hb dX0_sumOfOrbit_9 (lv_at hl 6 rfl) ?_
      refine lv_iload_n hx hb dX0_sumOfOrbit_11 rfl (lv_at hl 1 rfl) ?_
      refine lv_icmp_ge (tgt := 43) hx hb dX0_sumOfOrbit_12 (by decide) (fun hc => ?_) (fun hc => ?_)
      · replace hw := hw.1 hc
        clear hc
        refine lv_iload hx hb dX0_sumOfOrbit_43 (lv_at hl 4 rfl) ?_
        exact W.iret (v := x5) hx hb hr (fun t ht hW => ⟨_, rfl, hw, ht⟩) (fun q h => absurd h List.not_mem_nil) dX0_sumOfOrbit_45
      · replace hw := hw.2 hc
        clear hc
        refine lv_iload hx hb dX0_sumOfOrbit_15 (lv_at hl 4 rfl) ?_
        refine lv_aload_n hx hb dX0_sumOfOrbit_17 rfl (lv_at hl 0 rfl) ?_
        refine lv_iload hx hb dX0_sumOfOrbit_18 (lv_at hl 3 rfl) ?_
        refine lv_iload hx hb dX0_sumOfOrbit_20 (lv_at hl 5 rfl) ?_
        refine vp_callSi (W.runV (As := [.int x4, .int x6]) (rest := [.int x5]) ⟨hx, hb, hml, hown, hts⟩ (cX_measured l dC dI h ad ca tc cl tr g x4 x6 _ hw) (cwV 2 hts gX0_sumOfOrbit_X0_measured rfl rfl rfl (by decide +kernel) ⟨Nat.le_of_ble_eq_true rfl, Nat.le_of_ble_eq_true rfl⟩) ⟨fun a U g mk q => by obtain ⟨q0, qP, qK⟩ := q; exact ⟨q0, qP, va_K.moved (u := U) (U := U.calling g mk a) (Vm.Alike.refl U.vm) qK⟩, va_recv hK hP (ci := 0) (q0 := 0) rfl rfl, fun U hU hW => ⟨rfl, by rw [hU]; exact hP, va_K.moved hW.alike hK⟩⟩ rfl rfl hl.1 rfl (lv_room (Nat.le_of_ble_eq_true rfl)) dX0_sumOfOrbit_22 ⟨Nat.zero_le _, Nat.zero_le _⟩) (fun r_1 hw => ?_)
        try dsimp only at hw
        refine lv_iadd hx hb dX0_sumOfOrbit_25 ?_
        refine lv_topi (fun x5_2 hv => ?_)
        replace hw := hw x5_2 hv
        clear hv
        refine lv_istore (lv' := [(5, .int x5_2), (0, .ref h), (2, .int x2), (3, .int x3), (4, .int x4), (6, .int x6), (7, .int x7)]) hx hb dX0_sumOfOrbit_26 hl (by decide) rfl (fun ls hl => ?_)
        refine lv_aload_n hx hb dX0_sumOfOrbit_28 rfl (lv_at hl 1 rfl) ?_
        refine lv_iload hx hb dX0_sumOfOrbit_29 (lv_at hl 5 rfl) ?_
        refine lv_iload_n hx hb dX0_sumOfOrbit_31 rfl (lv_at hl 3 rfl) ?_
        refine vp_callSi (W.runV (As := [.int x6, .int x3]) (rest := []) ⟨hx, hb, hml, hown, hts⟩ (cX_turned l dC dI h ad ca tc cl tr g x6 x3 _ hw) (cwV 2 hts gX0_sumOfOrbit_X0_turned rfl rfl rfl (by decide +kernel) ⟨Nat.le_of_ble_eq_true rfl, Nat.le_of_ble_eq_true rfl⟩) ⟨fun a U g mk q => by obtain ⟨q0, qP, qK⟩ := q; exact ⟨q0, qP, va_K.moved (u := U) (U := U.calling g mk a) (Vm.Alike.refl U.vm) qK⟩, va_recv hK hP (ci := 0) (q0 := 0) rfl rfl, fun U hU hW => ⟨rfl, by rw [hU]; exact hP, va_K.moved hW.alike hK⟩⟩ rfl rfl hl.1 rfl (lv_room (Nat.le_of_ble_eq_true rfl)) dX0_sumOfOrbit_32 ⟨Nat.zero_le _, Nat.zero_le _⟩) (fun r_3 hw => ?_)
        try dsimp only at hw
        refine lv_istore (lv' := [(6, .int r_3), (5, .int x5_2), (0, .ref h), (2, .int x2), (3, .int x3), (4, .int x4), (7, .int x7)]) hx hb dX0_sumOfOrbit_35 hl (by decide) rfl (fun ls hl => ?_)
        refine lv_iinc (v := (x7 + 1)) (lv' := [(7, .int ((x7 + 1))), (6, .int r_3), (5, .int x5_2), (0, .ref h), (2, .int x2), (3, .int x3), (4, .int x4)]) hx hb dX0_sumOfOrbit_37 hl (k := 6) rfl rfl (by decide) rfl (fun ls hl => ?_)
        refine lv_goto (tgt := 9) hx hb dX0_sumOfOrbit_40 (by decide) ?_
        exact hB x5_2 r_3 (x7 + 1) ls hw (lv_sub hl [3, 4, 5, 6, 2, 1, 0] rfl)
  subst hargs
  unfold wX_sumOfOrbit at hw
  have hl := lv_entry ([.ref h, .int x1, .int x2, .int x3, .int x4]) (n := 8) (Nat.le_of_ble_eq_true rfl)
  rw [lg_entry_eq]
  generalize (lg_sl ([.ref h, .int x1, .int x2, .int x3, .int x4]) ++ List.replicate (8 - (lg_sl ([.ref h, .int x1, .int x2, .int x3, .int x4])).length) Slot.unset).toArray = ls at hl ⊢
  have hl : lv_has ls 8 [(0, .ref h), (1, .int x1), (2, .int x2), (3, .int x3), (4, .int x4)] := hl
  refine lv_iconst (v := (0 : Int32)) hx hb dX0_sumOfOrbit_0 (by decide) ?_
  refine lv_istore (lv' := [(5, .int (0 : Int32)), (0, .ref h), (1, .int x1), (2, .int x2), (3, .int x3), (4, .int x4)]) hx hb dX0_sumOfOrbit_1 hl (by decide) rfl (fun ls hl => ?_)
  refine lv_iload_n hx hb dX0_sumOfOrbit_3 rfl (lv_at hl 2 rfl) ?_
  refine lv_istore (lv' := [(6, .int x1), (5, .int (0 : Int32)), (0, .ref h), (1, .int x1), (2, .int x2), (3, .int x3), (4, .int x4)]) hx hb dX0_sumOfOrbit_4 hl (by decide) rfl (fun ls hl => ?_)
  refine lv_iconst (v := (0 : Int32)) hx hb dX0_sumOfOrbit_6 (by decide) ?_
  refine lv_istore (lv' := [(7, .int (0 : Int32)), (6, .int x1), (5, .int (0 : Int32)), (0, .ref h), (1, .int x1), (2, .int x2), (3, .int x3), (4, .int x4)]) hx hb dX0_sumOfOrbit_7 hl (by decide) rfl (fun ls hl => ?_)
  obtain ⟨n_4, hw⟩ := hw
  exact lp_9 x2 x3 x4 n_4 (0 : Int32) x1 (0 : Int32) ls hw (lv_sub hl [3, 5, 6, 7, 2, 1, 0] rfl)
-- X0_mean
set_option maxHeartbeats 4000000 in
set_option maxRecDepth 100000 in
theorem cX_mean (l : Launch) (dC : Nat → ClassId) (dI : Nat → Nat → Nat) (h : Nat) (ad : Nat → Nat) (ca : Nat → ClassId) (sz : Nat) (tc cl : Int32) (tr : Int64) (g : Sg) (x1 : Int32) (x2 : Int32) (x3 : Int32) (x4 : Int32) (P : Int32 → Sg → Prop) (hw : wX_mean P tc cl tr g x1 x2 x3 x4) : Met l yX0_mean wsX0_mean ({ frames := 5, cells := 0, slots := 0, locals := 116 }) (va_Pc [.ref h, .int x1, .int x2, .int x3, .int x4] (fun U => U.heap.size = sz ∧ va_P (dC, dI) vwCl (XL h ad ca tc cl tr g) U.heap ∧ va_K (dC, dI) vwCl (XT ca) U ∧ va_D (fun _ => True) (XL h ad ca tc cl tr g))) (va_Qi (fun (r : Int32) (u : Sg) => P r u) (at_X1 dC dI (va_A (XL h ad ca tc cl tr g) sz) h ad ca tc cl tr) (va_A (XL h ad ca tc cl tr g) sz)) 0 0 (va_A (XL h ad ca tc cl tr g) sz) := by
  refine Met.ofW (cc := cX0_mean) (maxL := 8) (ret := (some .int)) (by decide) rfl ?_
  intro p e s m args below meth c s₁ B0 hml hv
  obtain ⟨hargs, hsz, hP, hK, hD0⟩ := hv
  have hx := B0.exec
  have hb := B0.bytes
  have hr := B0.returns
  have hts := atoms_spec (ws := wsX0_mean) B0.pre
  have hown : s.vm.findClass RX0 = some m.cls := findClass_of_methodNamed B0.named
  have hlocks := B0.notSynchronized
  have inw : ∀ w ∈ wsX00, w ∈ wsX0_mean := fun w h => List.mem_cons_of_mem _ (List.mem_append_right _ h)
  have k56 : (Cond.constant RX0 56 (-1000000)).before args s = true := hts _ (by decide +kernel)
  have ml110 : (Cond.methodLink RX0 110 Lib.Math.abs.name).before args s = true := hts _ (by decide +kernel)
  have msabs : (Cond.static Lib.Math.abs.name).before args s = true := hts _ (by decide +kernel)
  have mcabs : (Cond.code Lib.Math.abs.name Lib.Math.abs.code 1 (some .int)).before args s = true := hts _ (by decide +kernel)
  have mini : (Cond.initialized "java/lang/Math").before args s = true := hts _ (by decide +kernel)
  subst hsz
  have hD := hD0.self (sz := s.heap.size)
  generalize hAe : va_A (XL h ad ca tc cl tr g) s.heap.size = A at hD ⊢
  have hA : ∀ q : Nat, s.heap.size ≤ q → A q := fun q h => by rw [← hAe]; exact Or.inr h
  clear hAe hD0
  have hS : va_S A s.heap s.heap [] := va_S.rf
  subst hargs
  unfold wX_mean at hw
  have hl := lv_entry ([.ref h, .int x1, .int x2, .int x3, .int x4]) (n := 8) (Nat.le_of_ble_eq_true rfl)
  rw [lg_entry_eq]
  generalize (lg_sl ([.ref h, .int x1, .int x2, .int x3, .int x4]) ++ List.replicate (8 - (lg_sl ([.ref h, .int x1, .int x2, .int x3, .int x4])).length) Slot.unset).toArray = ls at hl ⊢
  have hl : lv_has ls 8 [(0, .ref h), (1, .int x1), (2, .int x2), (3, .int x3), (4, .int x4)] := hl
  obtain ⟨H, hHe⟩ : ∃ z : Heap, z = s.heap := ⟨_, rfl⟩
  obtain ⟨locs, hLe⟩ : ∃ z : List Loc, z = [] := ⟨_, rfl⟩
  have hS : va_S A s.heap H locs := by rw [hHe, hLe]; exact hS
  have hP : va_P (dC, dI) vwCl (XL h ad ca tc cl tr g) H := by rw [hHe]; exact hP
  have hgo : W p l e (headSpec wsX0_mean ({ frames := 5, cells := 0, slots := 0, locals := 116 })).room s m ([.ref h, .int x1, .int x2, .int x3, .int x4] : List Value).toArray below meth c H locs 0 0 (MQ below (va_Qi (fun (r : Int32) (u : Sg) => P r u) (at_X1 dC dI A h ad ca tc cl tr) A) ([.ref h, .int x1, .int x2, .int x3, .int x4] : List Value).toArray s 0 0 A) (F0 m 0 ls []) := by
    clear hHe hLe
    refine lv_aload_n hx hb dX0_mean_0 rfl (lv_at hl 0 rfl) ?_
    refine lv_iload_n hx hb dX0_mean_1 rfl (lv_at hl 1 rfl) ?_
    refine vp_callSi (W.runV (As := [.int x1]) (rest := []) ⟨hx, hb, hml, hown, hts⟩ (cX_isHeap l dC dI h ad ca tc cl tr g x1 _ hw) (cwV 1 hts gX0_mean_X0_isHeap rfl rfl rfl (by decide +kernel) ⟨Nat.le_of_ble_eq_true rfl, Nat.le_of_ble_eq_true rfl⟩) ⟨fun a U g mk q => by obtain ⟨q0, qP, qK⟩ := q; exact ⟨q0, qP, va_K.moved (u := U) (U := U.calling g mk a) (Vm.Alike.refl U.vm) qK⟩, va_recv hK hP (ci := 0) (q0 := 0) rfl rfl, fun U hU hW => ⟨rfl, by rw [hU]; exact hP, va_K.moved hW.alike hK⟩⟩ rfl rfl hl.1 rfl (lv_room (Nat.le_of_ble_eq_true rfl)) dX0_mean_2 ⟨Nat.zero_le _, Nat.zero_le _⟩) (fun r_1 hw => ?_)
    try dsimp only at hw
    refine lv_if_eq (tgt := 33) hx hb dX0_mean_5 (by decide) (fun hc => ?_) (fun hc => ?_)
    · replace hw := hw.1 hc
      clear hc
      refine lv_ldc (v := (-1000000 : Int32)) hx hb hown k56 dX0_mean_33 ?_
      exact W.iret (v := (-1000000 : Int32)) hx hb hr (fun t ht hW => ⟨⟨(-1000000 : Int32), g, rfl, hw, by rw [ht]; exact hP, va_K.moved hW.alike hK, hD⟩, hS.F ht⟩) hS.2.2 dX0_mean_35
    · replace hw := hw.2 hc
      clear hc
      refine lv_iload_n hx hb dX0_mean_8 rfl (lv_at hl 2 rfl) ?_
      refine vp_callSi (W.runS (As := [.int x2]) (rest := []) ⟨hx, hb, hml, hown, hts⟩ (cX_isTurnKind l x2 _ hw) (va_cwS 1 hts gX0_mean_X0_isTurnKind rfl rfl rfl (by decide +kernel) ⟨Nat.le_of_ble_eq_true rfl, Nat.le_of_ble_eq_true rfl⟩) ⟨fun a U g mk q => q, fun U hU hW => ⟨rfl, trivial⟩⟩ rfl rfl hl.1 rfl (lv_room (Nat.le_of_ble_eq_true rfl)) dX0_mean_9 ⟨Nat.zero_le _, Nat.zero_le _⟩) (fun r_2 hw => ?_)
      try dsimp only at hw
      refine lv_if_eq (tgt := 33) hx hb dX0_mean_12 (by decide) (fun hc => ?_) (fun hc => ?_)
      · replace hw := hw.1 hc
        clear hc
        refine lv_ldc (v := (-1000000 : Int32)) hx hb hown k56 dX0_mean_33 ?_
        exact W.iret (v := (-1000000 : Int32)) hx hb hr (fun t ht hW => ⟨⟨(-1000000 : Int32), g, rfl, hw, by rw [ht]; exact hP, va_K.moved hW.alike hK, hD⟩, hS.F ht⟩) hS.2.2 dX0_mean_35
      · replace hw := hw.2 hc
        clear hc
        refine lv_iload_n hx hb dX0_mean_15 rfl (lv_at hl 3 rfl) ?_
        refine vp_callSi (W.runS (As := [.int x3]) (rest := []) ⟨hx, hb, hml, hown, hts⟩ (cX_isMeasureKind l x3 _ hw) (va_cwS 1 hts gX0_mean_X0_isMeasureKind rfl rfl rfl (by decide +kernel) ⟨Nat.le_of_ble_eq_true rfl, Nat.le_of_ble_eq_true rfl⟩) ⟨fun a U g mk q => q, fun U hU hW => ⟨rfl, trivial⟩⟩ rfl rfl hl.1 rfl (lv_room (Nat.le_of_ble_eq_true rfl)) dX0_mean_16 ⟨Nat.zero_le _, Nat.zero_le _⟩) (fun r_3 hw => ?_)
        try dsimp only at hw
        refine lv_if_eq (tgt := 33) hx hb dX0_mean_19 (by decide) (fun hc => ?_) (fun hc => ?_)
        · replace hw := hw.1 hc
          clear hc
          refine lv_ldc (v := (-1000000 : Int32)) hx hb hown k56 dX0_mean_33 ?_
          exact W.iret (v := (-1000000 : Int32)) hx hb hr (fun t ht hW => ⟨⟨(-1000000 : Int32), g, rfl, hw, by rw [ht]; exact hP, va_K.moved hW.alike hK, hD⟩, hS.F ht⟩) hS.2.2 dX0_mean_35
        · replace hw := hw.2 hc
          clear hc
          refine lv_iload hx hb dX0_mean_22 (lv_at hl 4 rfl) ?_
          refine lv_if_lt (tgt := 33) hx hb dX0_mean_24 (by decide) (fun hc => ?_) (fun hc => ?_)
          · replace hw := hw.1 hc
            clear hc
            refine lv_ldc (v := (-1000000 : Int32)) hx hb hown k56 dX0_mean_33 ?_
            exact W.iret (v := (-1000000 : Int32)) hx hb hr (fun t ht hW => ⟨⟨(-1000000 : Int32), g, rfl, hw, by rw [ht]; exact hP, va_K.moved hW.alike hK, hD⟩, hS.F ht⟩) hS.2.2 dX0_mean_35
          · replace hw := hw.2 hc
            clear hc
            refine lv_iload hx hb dX0_mean_27 (lv_at hl 4 rfl) ?_
            refine lv_iconst (v := (1 : Int32)) hx hb dX0_mean_29 (by decide) ?_
            refine lv_icmp_le (tgt := 36) hx hb dX0_mean_30 (by decide) (fun hc => ?_) (fun hc => ?_)
            · replace hw := hw.1 hc
              clear hc
              refine lv_aload_n hx hb dX0_mean_36 rfl (lv_at hl 0 rfl) ?_
              refine lv_iload_n hx hb dX0_mean_37 rfl (lv_at hl 1 rfl) ?_
              refine lv_iload_n hx hb dX0_mean_38 rfl (lv_at hl 2 rfl) ?_
              have hFc := va_free (wc := (XL h ad ca tc cl tr g)) hD hS hA [0, 1, 2, 3, 4, 5, 6, 7, 8, 9, 10] rfl
              refine va_calli (va_runV (As := [.int x1, .int x2]) (rest := []) ⟨hx, hb, hml, hown, hts⟩ (cX_walkOrbit l dC dI h ad ca H.size tc cl tr g x1 x2 _ hw) (cwV 2 hts gX0_mean_X0_walkOrbit rfl rfl rfl (by decide +kernel) ⟨Nat.le_of_ble_eq_true rfl, Nat.le_of_ble_eq_true rfl⟩) ⟨fun a U g mk q => by obtain ⟨q0, q1, qP, qK, qD⟩ := q; exact ⟨q0, q1, qP, va_K.moved (u := U) (U := U.calling g mk a) (Vm.Alike.refl U.vm) qK, qD⟩, va_recv hK hP (ci := 0) (q0 := 0) rfl rfl, fun U hU hW => ⟨rfl, by rw [hU], by rw [hU]; exact hP, va_K.moved hW.alike hK, hD.weaken (fun _ _ _ _ => trivial)⟩⟩ rfl rfl hl.1 rfl (lv_room (Nat.le_of_ble_eq_true rfl)) dX0_mean_39 ⟨Nat.zero_le _, Nat.zero_le _⟩) hS (fun q _ h => hFc q h) hFc (fun r_4 g_5 t H1 locs ht hvm hw hB hz1 hk1 hS => ?_)
              obtain ⟨hP1, hK1, hD1⟩ := hB
              rw [ht] at hP1
              have hP : va_P (dC, dI) vwCl (XL h ad ca tc cl tr g_5) H1 := hP1
              have hD : va_D A (XL h ad ca tc cl tr g_5) := hD1.weaken (fun _ _ _ h => hFc _ h)
              clear hP1 hK1 hD1 hFc hk1 hz1 hvm ht
              generalize H1 = H at hP hS ⊢
              try dsimp only at hw
              refine lv_istore (lv' := [(5, .int r_4), (0, .ref h), (1, .int x1), (2, .int x2), (3, .int x3), (4, .int x4)]) hx hb dX0_mean_42 hl (by decide) rfl (fun ls hl => ?_)
              refine lv_aload_n hx hb dX0_mean_44 rfl (lv_at hl 1 rfl) ?_
              refine lv_iload_n hx hb dX0_mean_45 rfl (lv_at hl 2 rfl) ?_
              refine lv_iload hx hb dX0_mean_46 (lv_at hl 0 rfl) ?_
              refine lv_iload_n hx hb dX0_mean_48 rfl (lv_at hl 3 rfl) ?_
              refine lv_iload_n hx hb dX0_mean_49 rfl (lv_at hl 4 rfl) ?_
              refine vp_callSi (W.runV (As := [.int x1, .int r_4, .int x2, .int x3]) (rest := []) ⟨hx, hb, hml, hown, hts⟩ (cX_sumOfOrbit l dC dI h ad ca tc cl tr g_5 x1 r_4 x2 x3 _ hw) (cwV 4 hts gX0_mean_X0_sumOfOrbit rfl rfl rfl (by decide +kernel) ⟨Nat.le_of_ble_eq_true rfl, Nat.le_of_ble_eq_true rfl⟩) ⟨fun a U g mk q => by obtain ⟨q0, qP, qK⟩ := q; exact ⟨q0, qP, va_K.moved (u := U) (U := U.calling g mk a) (Vm.Alike.refl U.vm) qK⟩, va_recv hK hP (ci := 0) (q0 := 0) rfl rfl, fun U hU hW => ⟨rfl, by rw [hU]; exact hP, va_K.moved hW.alike hK⟩⟩ rfl rfl hl.1 rfl (lv_room (Nat.le_of_ble_eq_true rfl)) dX0_mean_50 ⟨Nat.zero_le _, Nat.zero_le _⟩) (fun r_6 hw => ?_)
              try dsimp only at hw
              refine lv_istore (lv' := [(6, .int r_6), (5, .int r_4), (0, .ref h), (1, .int x1), (2, .int x2), (3, .int x3), (4, .int x4)]) hx hb dX0_mean_53 hl (by decide) rfl (fun ls hl => ?_)
              refine lv_iload hx hb dX0_mean_55 (lv_at hl 0 rfl) ?_
              refine va_mabs hx hb (hml.trans hl.1.symm) hown ml110 msabs mini mcabs (Nat.le_of_ble_eq_true rfl) (Nat.le_of_ble_eq_true rfl) (Nat.zero_le _) (Nat.zero_le _) dX0_mean_57 ?_
              refine lv_iload hx hb dX0_mean_60 (lv_at hl 1 rfl) ?_
              refine vp_callSi (W.runS (As := [.int ((if 0 ≤ r_6 then r_6 else 0 - r_6)), .int r_4]) (rest := []) ⟨hx, hb, hml, hown, hts⟩ (cX_commonDivisor l (if 0 ≤ r_6 then r_6 else 0 - r_6) r_4 _ hw) (va_cwS 2 hts gX0_mean_X0_commonDivisor rfl rfl rfl (by decide +kernel) ⟨Nat.le_of_ble_eq_true rfl, Nat.le_of_ble_eq_true rfl⟩) ⟨fun a U g mk q => q, fun U hU hW => ⟨rfl, trivial⟩⟩ rfl rfl hl.1 rfl (lv_room (Nat.le_of_ble_eq_true rfl)) dX0_mean_62 ⟨Nat.zero_le _, Nat.zero_le _⟩) (fun r_7 hw => ?_)
              try dsimp only at hw
              refine lv_istore (lv' := [(7, .int r_7), (6, .int r_6), (5, .int r_4), (0, .ref h), (1, .int x1), (2, .int x2), (3, .int x3), (4, .int x4)]) hx hb dX0_mean_65 hl (by decide) rfl (fun ls hl => ?_)
              refine lv_iload hx hb dX0_mean_67 (lv_at hl 7 rfl) ?_
              refine lv_if_ne (tgt := 80) hx hb dX0_mean_69 (by decide) (fun hc => ?_) (fun hc => ?_)
              · replace hw := hw.1 hc
                clear hc
                refine lv_iload hx hb dX0_mean_80 (lv_at hl 2 rfl) ?_
                refine lv_iload hx hb dX0_mean_82 (lv_at hl 0 rfl) ?_
                obtain ⟨hne, hw⟩ := hw
                refine lv_idiv hx hb dX0_mean_84 hne ?_
                exact W.iret (v := (r_4 / r_7)) hx hb hr (fun t ht hW => ⟨⟨(r_4 / r_7), g_5, rfl, hw, by rw [ht]; exact hP, va_K.moved hW.alike hK, hD⟩, hS.F ht⟩) hS.2.2 dX0_mean_85
              · replace hw := hw.2 hc
                clear hc
                refine lv_iload hx hb dX0_mean_72 (lv_at hl 1 rfl) ?_
                refine lv_iload hx hb dX0_mean_74 (lv_at hl 0 rfl) ?_
                obtain ⟨hne, hw⟩ := hw
                refine lv_idiv hx hb dX0_mean_76 hne ?_
                refine lv_goto (tgt := 85) hx hb dX0_mean_77 (by decide) ?_
                exact W.iret (v := (r_6 / r_7)) hx hb hr (fun t ht hW => ⟨⟨(r_6 / r_7), g_5, rfl, hw, by rw [ht]; exact hP, va_K.moved hW.alike hK, hD⟩, hS.F ht⟩) hS.2.2 dX0_mean_85
            · replace hw := hw.2 hc
              clear hc
              refine lv_ldc (v := (-1000000 : Int32)) hx hb hown k56 dX0_mean_33 ?_
              exact W.iret (v := (-1000000 : Int32)) hx hb hr (fun t ht hW => ⟨⟨(-1000000 : Int32), g, rfl, hw, by rw [ht]; exact hP, va_K.moved hW.alike hK, hD⟩, hS.F ht⟩) hS.2.2 dX0_mean_35
  rw [hHe, hLe] at hgo
  exact hgo
-- X0_even
set_option maxHeartbeats 4000000 in
set_option maxRecDepth 100000 in
theorem cX_even (l : Launch) (dC : Nat → ClassId) (dI : Nat → Nat → Nat) (h : Nat) (ad : Nat → Nat) (ca : Nat → ClassId) (sz : Nat) (tc cl : Int32) (tr : Int64) (g : Sg) (x1 : Int32) (x2 : Int32) (P : Int32 → Sg → Prop) (hw : wX_even P tc cl tr g x1 x2) : Met l yX0_even wsX0_even ({ frames := 6, cells := 0, slots := 0, locals := 136 }) (va_Pc [.ref h, .int x1, .int x2] (fun U => U.heap.size = sz ∧ va_P (dC, dI) vwCl (XL h ad ca tc cl tr g) U.heap ∧ va_K (dC, dI) vwCl (XT ca) U ∧ va_D (fun _ => True) (XL h ad ca tc cl tr g))) (va_Qi (fun (r : Int32) (u : Sg) => P r u) (at_X1 dC dI (va_A (XL h ad ca tc cl tr g) sz) h ad ca tc cl tr) (va_A (XL h ad ca tc cl tr g) sz)) 0 0 (va_A (XL h ad ca tc cl tr g) sz) := by
  refine Met.ofW (cc := cX0_even) (maxL := 8) (ret := (some .int)) (by decide) rfl ?_
  intro p e s m args below meth c s₁ B0 hml hv
  obtain ⟨hargs, hsz, hP, hK, hD0⟩ := hv
  have hx := B0.exec
  have hb := B0.bytes
  have hr := B0.returns
  have hts := atoms_spec (ws := wsX0_even) B0.pre
  have hown : s.vm.findClass RX0 = some m.cls := findClass_of_methodNamed B0.named
  have hlocks := B0.notSynchronized
  have inw : ∀ w ∈ wsX00, w ∈ wsX0_even := fun w h => List.mem_cons_of_mem _ (List.mem_append_right _ h)
  have f35 : (Cond.fieldLink RX0 35 "FlipHeaps" "starts" "[I").before args s = true := hts _ (by decide +kernel)
  have f38 : (Cond.fieldLink RX0 38 "FlipHeaps" "lengths" "[I").before args s = true := hts _ (by decide +kernel)
  subst hsz
  have hD := hD0.self (sz := s.heap.size)
  generalize hAe : va_A (XL h ad ca tc cl tr g) s.heap.size = A at hD ⊢
  have hA : ∀ q : Nat, s.heap.size ≤ q → A q := fun q h => by rw [← hAe]; exact Or.inr h
  clear hAe hD0
  have hS : va_S A s.heap s.heap [] := va_S.rf
  have lp_49 : ∀ (x1 : Int32) (x2 : Int32) (x3 : Int32) (x4 : Int32) (x5 : Int32), ∀ (n : Nat) (x6 : Int32) (g : Sg) (H : Heap) (locs : List Loc) (ls : Array Slot), Lp2 (wX_even_b49 P tc cl tr x1 x2 x3 x4 x5) n x6 g → va_P (dC, dI) vwCl (XL h ad ca tc cl tr g) H → va_D A (XL h ad ca tc cl tr g) → va_S A s.heap H locs → lv_has ls 8 [(0, .ref h), (1, .int x1), (2, .int x2), (3, .int x3), (4, .int x4), (5, .int x5), (6, .int x6)] → W p l e (headSpec wsX0_even ({ frames := 6, cells := 0, slots := 0, locals := 136 })).room s m args below meth c H locs 0 0 (MQ below (va_Qi (fun (r : Int32) (u : Sg) => P r u) (at_X1 dC dI A h ad ca tc cl tr) A) args s 0 0 A) (F0 m 49 ls []) := by
    intro x1 x2 x3 x4 x5
    intro n
    induction n with
    | zero => intro x6 g H locs ls hw; exact False.elim hw
    | succ n hB =>
      intro x6 g H locs ls hw hP hD hS hl
      replace hw : wX_even_b49 P tc cl tr x1 x2 x3 x4 x5 (Lp2 (wX_even_b49 P tc cl tr x1 x2 x3 x4 x5) n) x6 g := hw
      unfold wX_even_b49 at hw
      refine lv_iload hx hb dX0_even_49 (lv_at hl 6 rfl) ?_
      refine lv_iload_n hx hb dX0_even_51 rfl (lv_at hl 3 rfl) ?_
      refine lv_icmp_ge (tgt := 103) hx hb dX0_even_52 (by decide) (fun hc => ?_) (fun hc => ?_)
      · replace hw := hw.1 hc
        clear hc
        refine lv_iconst (v := (1 : Int32)) hx hb dX0_even_103 (by decide) ?_
        exact W.iret (v := (1 : Int32)) hx hb hr (fun t ht hW => ⟨⟨(1 : Int32), g, rfl, hw, by rw [ht]; exact hP, va_K.moved hW.alike hK, hD⟩, hS.F ht⟩) hS.2.2 dX0_even_104
      · replace hw := hw.2 hc
        clear hc
        refine lv_aload_n hx hb dX0_even_55 rfl (lv_at hl 0 rfl) ?_
        refine lv_aload_n hx hb dX0_even_56 rfl (lv_at hl 0 rfl) ?_
        refine va_get (D := (dC, dI)) (ci := 0) (C := RX0) (T := TX0) (N := 13) hx hb hts inw hown hK hP 0 rfl rfl 10 (by decide) f35 (fun _ h9 => h9) rfl dX0_even_57 ?_
        refine lv_iload hx hb dX0_even_60 (lv_at hl 6 rfl) ?_
        obtain ⟨hin, hw⟩ := hw
        refine va_iald hx hb hK hP 8 7 rfl rfl hin dX0_even_62 ?_
        refine lv_aload_n hx hb dX0_even_63 rfl (lv_at hl 0 rfl) ?_
        refine va_get (D := (dC, dI)) (ci := 0) (C := RX0) (T := TX0) (N := 13) hx hb hts inw hown hK hP 0 rfl rfl 11 (by decide) f38 (fun _ h9 => h9) rfl dX0_even_64 ?_
        refine lv_iload hx hb dX0_even_67 (lv_at hl 6 rfl) ?_
        obtain ⟨hin, hw⟩ := hw
        refine va_iald hx hb hK hP 9 8 rfl rfl hin dX0_even_69 ?_
        refine lv_iload_n hx hb dX0_even_70 rfl (lv_at hl 1 rfl) ?_
        refine lv_iload_n hx hb dX0_even_71 rfl (lv_at hl 2 rfl) ?_
        refine vp_callSi (W.runV (As := [.int ((g 10 (x6).toNatClampNeg)), .int ((g 11 (x6).toNatClampNeg)), .int x1, .int x2]) (rest := []) ⟨hx, hb, hml, hown, hts⟩ (cX_sumOfOrbit l dC dI h ad ca tc cl tr g (g 10 (x6).toNatClampNeg) (g 11 (x6).toNatClampNeg) x1 x2 _ hw) (cwV 4 hts gX0_even_X0_sumOfOrbit rfl rfl rfl (by decide +kernel) ⟨Nat.le_of_ble_eq_true rfl, Nat.le_of_ble_eq_true rfl⟩) ⟨fun a U g mk q => by obtain ⟨q0, qP, qK⟩ := q; exact ⟨q0, qP, va_K.moved (u := U) (U := U.calling g mk a) (Vm.Alike.refl U.vm) qK⟩, va_recv hK hP (ci := 0) (q0 := 0) rfl rfl, fun U hU hW => ⟨rfl, by rw [hU]; exact hP, va_K.moved hW.alike hK⟩⟩ rfl rfl hl.1 rfl (lv_room (Nat.le_of_ble_eq_true rfl)) dX0_even_72 ⟨Nat.zero_le _, Nat.zero_le _⟩) (fun r_1 hw => ?_)
        try dsimp only at hw
        refine lv_istore (lv' := [(7, .int r_1), (0, .ref h), (1, .int x1), (2, .int x2), (3, .int x3), (4, .int x4), (5, .int x5), (6, .int x6)]) hx hb dX0_even_75 hl (by decide) rfl (fun ls hl => ?_)
        refine lv_iload hx hb dX0_even_77 (lv_at hl 0 rfl) ?_
        refine lv_iload hx hb dX0_even_79 (lv_at hl 5 rfl) ?_
        refine lv_imul hx hb dX0_even_81 ?_
        refine lv_iload hx hb dX0_even_82 (lv_at hl 6 rfl) ?_
        refine lv_aload_n hx hb dX0_even_84 rfl (lv_at hl 1 rfl) ?_
        refine va_get (D := (dC, dI)) (ci := 0) (C := RX0) (T := TX0) (N := 13) hx hb hts inw hown hK hP 0 rfl rfl 11 (by decide) f38 (fun _ h9 => h9) rfl dX0_even_85 ?_
        refine lv_iload hx hb dX0_even_88 (lv_at hl 7 rfl) ?_
        obtain ⟨hin, hw⟩ := hw
        refine va_iald hx hb hK hP 9 8 rfl rfl hin dX0_even_90 ?_
        refine lv_imul hx hb dX0_even_91 ?_
        refine lv_icmp_eq (tgt := 97) hx hb dX0_even_92 (by decide) (fun hc => ?_) (fun hc => ?_)
        · replace hw := hw.1 hc
          clear hc
          refine lv_iinc (v := (x6 + 1)) (lv' := [(6, .int ((x6 + 1))), (7, .int r_1), (0, .ref h), (1, .int x1), (2, .int x2), (3, .int x3), (4, .int x4), (5, .int x5)]) hx hb dX0_even_97 hl (k := 7) rfl rfl (by decide) rfl (fun ls hl => ?_)
          refine lv_goto (tgt := 49) hx hb dX0_even_100 (by decide) ?_
          exact hB (x6 + 1) g H locs ls hw hP hD hS (lv_sub hl [2, 3, 4, 5, 6, 7, 0] rfl)
        · replace hw := hw.2 hc
          clear hc
          refine lv_iconst (v := (0 : Int32)) hx hb dX0_even_95 (by decide) ?_
          exact W.iret (v := (0 : Int32)) hx hb hr (fun t ht hW => ⟨⟨(0 : Int32), g, rfl, hw, by rw [ht]; exact hP, va_K.moved hW.alike hK, hD⟩, hS.F ht⟩) hS.2.2 dX0_even_96
  subst hargs
  unfold wX_even at hw
  have hl := lv_entry ([.ref h, .int x1, .int x2]) (n := 8) (Nat.le_of_ble_eq_true rfl)
  rw [lg_entry_eq]
  generalize (lg_sl ([.ref h, .int x1, .int x2]) ++ List.replicate (8 - (lg_sl ([.ref h, .int x1, .int x2])).length) Slot.unset).toArray = ls at hl ⊢
  have hl : lv_has ls 8 [(0, .ref h), (1, .int x1), (2, .int x2)] := hl
  obtain ⟨H, hHe⟩ : ∃ z : Heap, z = s.heap := ⟨_, rfl⟩
  obtain ⟨locs, hLe⟩ : ∃ z : List Loc, z = [] := ⟨_, rfl⟩
  have hS : va_S A s.heap H locs := by rw [hHe, hLe]; exact hS
  have hP : va_P (dC, dI) vwCl (XL h ad ca tc cl tr g) H := by rw [hHe]; exact hP
  have hgo : W p l e (headSpec wsX0_even ({ frames := 6, cells := 0, slots := 0, locals := 136 })).room s m ([.ref h, .int x1, .int x2] : List Value).toArray below meth c H locs 0 0 (MQ below (va_Qi (fun (r : Int32) (u : Sg) => P r u) (at_X1 dC dI A h ad ca tc cl tr) A) ([.ref h, .int x1, .int x2] : List Value).toArray s 0 0 A) (F0 m 0 ls []) := by
    clear hHe hLe
    refine lv_iload_n hx hb dX0_even_0 rfl (lv_at hl 1 rfl) ?_
    refine vp_callSi (W.runS (As := [.int x1]) (rest := []) ⟨hx, hb, hml, hown, hts⟩ (cX_isTurnKind l x1 _ hw) (va_cwS 1 hts gX0_even_X0_isTurnKind rfl rfl rfl (by decide +kernel) ⟨Nat.le_of_ble_eq_true rfl, Nat.le_of_ble_eq_true rfl⟩) ⟨fun a U g mk q => q, fun U hU hW => ⟨rfl, trivial⟩⟩ rfl rfl hl.1 rfl (lv_room (Nat.le_of_ble_eq_true rfl)) dX0_even_1 ⟨Nat.zero_le _, Nat.zero_le _⟩) (fun r_2 hw => ?_)
    try dsimp only at hw
    refine lv_if_eq (tgt := 14) hx hb dX0_even_4 (by decide) (fun hc => ?_) (fun hc => ?_)
    · replace hw := hw.1 hc
      clear hc
      refine lv_iconst (v := (-1 : Int32)) hx hb dX0_even_14 (by decide) ?_
      exact W.iret (v := (-1 : Int32)) hx hb hr (fun t ht hW => ⟨⟨(-1 : Int32), g, rfl, hw, by rw [ht]; exact hP, va_K.moved hW.alike hK, hD⟩, hS.F ht⟩) hS.2.2 dX0_even_15
    · replace hw := hw.2 hc
      clear hc
      refine lv_iload_n hx hb dX0_even_7 rfl (lv_at hl 2 rfl) ?_
      refine vp_callSi (W.runS (As := [.int x2]) (rest := []) ⟨hx, hb, hml, hown, hts⟩ (cX_isMeasureKind l x2 _ hw) (va_cwS 1 hts gX0_even_X0_isMeasureKind rfl rfl rfl (by decide +kernel) ⟨Nat.le_of_ble_eq_true rfl, Nat.le_of_ble_eq_true rfl⟩) ⟨fun a U g mk q => q, fun U hU hW => ⟨rfl, trivial⟩⟩ rfl rfl hl.1 rfl (lv_room (Nat.le_of_ble_eq_true rfl)) dX0_even_8 ⟨Nat.zero_le _, Nat.zero_le _⟩) (fun r_3 hw => ?_)
      try dsimp only at hw
      refine lv_if_ne (tgt := 16) hx hb dX0_even_11 (by decide) (fun hc => ?_) (fun hc => ?_)
      · replace hw := hw.1 hc
        clear hc
        refine lv_aload_n hx hb dX0_even_16 rfl (lv_at hl 0 rfl) ?_
        refine lv_iload_n hx hb dX0_even_17 rfl (lv_at hl 1 rfl) ?_
        have hFc := va_free (wc := (XL h ad ca tc cl tr g)) hD hS hA [0, 1, 2, 3, 4, 5, 6, 7, 8, 9, 10] rfl
        refine va_calli (va_runV (As := [.int x1]) (rest := []) ⟨hx, hb, hml, hown, hts⟩ (cX_findOrbits l dC dI h ad ca H.size tc cl tr g x1 _ hw) (cwV 1 hts gX0_even_X0_findOrbits rfl rfl rfl (by decide +kernel) ⟨Nat.le_of_ble_eq_true rfl, Nat.le_of_ble_eq_true rfl⟩) ⟨fun a U g mk q => by obtain ⟨q0, q1, qP, qK, qD⟩ := q; exact ⟨q0, q1, qP, va_K.moved (u := U) (U := U.calling g mk a) (Vm.Alike.refl U.vm) qK, qD⟩, va_recv hK hP (ci := 0) (q0 := 0) rfl rfl, fun U hU hW => ⟨rfl, by rw [hU], by rw [hU]; exact hP, va_K.moved hW.alike hK, hD.weaken (fun _ _ _ _ => trivial)⟩⟩ rfl rfl hl.1 rfl (lv_room (Nat.le_of_ble_eq_true rfl)) dX0_even_18 ⟨Nat.zero_le _, Nat.zero_le _⟩) hS (fun q _ h => hFc q h) hFc (fun r_4 g_5 t H1 locs ht hvm hw hB hz1 hk1 hS => ?_)
        obtain ⟨hP1, hK1, hD1⟩ := hB
        rw [ht] at hP1
        have hP : va_P (dC, dI) vwCl (XL h ad ca tc cl tr g_5) H1 := hP1
        have hD : va_D A (XL h ad ca tc cl tr g_5) := hD1.weaken (fun _ _ _ h => hFc _ h)
        clear hP1 hK1 hD1 hFc hk1 hz1 hvm ht
        generalize H1 = H at hP hS ⊢
        try dsimp only at hw
        refine lv_istore_n (lv' := [(3, .int r_4), (0, .ref h), (1, .int x1), (2, .int x2)]) hx hb dX0_even_21 rfl hl (by decide) rfl (fun ls hl => ?_)
        refine lv_aload_n hx hb dX0_even_22 rfl (lv_at hl 1 rfl) ?_
        refine va_get (D := (dC, dI)) (ci := 0) (C := RX0) (T := TX0) (N := 13) hx hb hts inw hown hK hP 0 rfl rfl 11 (by decide) f38 (fun _ h9 => h9) rfl dX0_even_23 ?_
        refine lv_iconst (v := (0 : Int32)) hx hb dX0_even_26 (by decide) ?_
        obtain ⟨hin, hw⟩ := hw
        refine va_iald hx hb hK hP 9 8 rfl rfl hin dX0_even_27 ?_
        refine lv_topi (fun x4_6 hv => ?_)
        replace hw := hw x4_6 hv
        clear hv
        refine lv_istore (lv' := [(4, .int x4_6), (3, .int r_4), (0, .ref h), (1, .int x1), (2, .int x2)]) hx hb dX0_even_28 hl (by decide) rfl (fun ls hl => ?_)
        refine lv_aload_n hx hb dX0_even_30 rfl (lv_at hl 2 rfl) ?_
        refine lv_aload_n hx hb dX0_even_31 rfl (lv_at hl 2 rfl) ?_
        refine va_get (D := (dC, dI)) (ci := 0) (C := RX0) (T := TX0) (N := 13) hx hb hts inw hown hK hP 0 rfl rfl 10 (by decide) f35 (fun _ h9 => h9) rfl dX0_even_32 ?_
        refine lv_iconst (v := (0 : Int32)) hx hb dX0_even_35 (by decide) ?_
        obtain ⟨hin, hw⟩ := hw
        refine va_iald hx hb hK hP 8 7 rfl rfl hin dX0_even_36 ?_
        refine lv_iload hx hb dX0_even_37 (lv_at hl 0 rfl) ?_
        refine lv_iload_n hx hb dX0_even_39 rfl (lv_at hl 3 rfl) ?_
        refine lv_iload_n hx hb dX0_even_40 rfl (lv_at hl 4 rfl) ?_
        refine vp_callSi (W.runV (As := [.int ((g_5 10 ((0 : Int32)).toNatClampNeg)), .int x4_6, .int x1, .int x2]) (rest := []) ⟨hx, hb, hml, hown, hts⟩ (cX_sumOfOrbit l dC dI h ad ca tc cl tr g_5 (g_5 10 ((0 : Int32)).toNatClampNeg) x4_6 x1 x2 _ hw) (cwV 4 hts gX0_even_X0_sumOfOrbit rfl rfl rfl (by decide +kernel) ⟨Nat.le_of_ble_eq_true rfl, Nat.le_of_ble_eq_true rfl⟩) ⟨fun a U g mk q => by obtain ⟨q0, qP, qK⟩ := q; exact ⟨q0, qP, va_K.moved (u := U) (U := U.calling g mk a) (Vm.Alike.refl U.vm) qK⟩, va_recv hK hP (ci := 0) (q0 := 0) rfl rfl, fun U hU hW => ⟨rfl, by rw [hU]; exact hP, va_K.moved hW.alike hK⟩⟩ rfl rfl hl.1 rfl (lv_room (Nat.le_of_ble_eq_true rfl)) dX0_even_41 ⟨Nat.zero_le _, Nat.zero_le _⟩) (fun r_7 hw => ?_)
        try dsimp only at hw
        refine lv_istore (lv' := [(5, .int r_7), (4, .int x4_6), (3, .int r_4), (0, .ref h), (1, .int x1), (2, .int x2)]) hx hb dX0_even_44 hl (by decide) rfl (fun ls hl => ?_)
        refine lv_iconst (v := (1 : Int32)) hx hb dX0_even_46 (by decide) ?_
        refine lv_istore (lv' := [(6, .int (1 : Int32)), (5, .int r_7), (4, .int x4_6), (3, .int r_4), (0, .ref h), (1, .int x1), (2, .int x2)]) hx hb dX0_even_47 hl (by decide) rfl (fun ls hl => ?_)
        obtain ⟨n_8, hw⟩ := hw
        exact lp_49 x1 x2 r_4 x4_6 r_7 n_8 (1 : Int32) g_5 H locs ls hw hP hD hS (lv_sub hl [4, 5, 6, 3, 2, 1, 0] rfl)
      · replace hw := hw.2 hc
        clear hc
        refine lv_iconst (v := (-1 : Int32)) hx hb dX0_even_14 (by decide) ?_
        exact W.iret (v := (-1 : Int32)) hx hb hr (fun t ht hW => ⟨⟨(-1 : Int32), g, rfl, hw, by rw [ht]; exact hP, va_K.moved hW.alike hK, hD⟩, hS.F ht⟩) hS.2.2 dX0_even_15
  rw [hHe, hLe] at hgo
  exact hgo
-- X0_isHeight
set_option maxHeartbeats 4000000 in
set_option maxRecDepth 100000 in
theorem cX_isHeight (l : Launch) (x0 : Int32) (P : Int32 → Prop) (hw : wX_isHeight P x0) : Met l yX0_isHeight wsX0_isHeight ({ frames := 0, cells := 0, slots := 0, locals := 0 }) (va_Pc [.int x0] (fun _ => True)) (vp_Si P) 0 0 (fun _ => False) := by
  refine Met.ofW (cc := cX0_isHeight) (maxL := 1) (ret := (some .boolean)) (by decide) rfl ?_
  intro p e s m args below meth c s₁ B0 hml hv
  obtain ⟨hargs, -⟩ := hv
  have hx := B0.exec
  have hb := B0.bytes
  have hr := B0.returns
  have hts := atoms_spec (ws := wsX0_isHeight) B0.pre
  have hown : s.vm.findClass RX0 = some m.cls := findClass_of_methodNamed B0.named
  have hlocks := B0.notSynchronized
  subst hargs
  unfold wX_isHeight at hw
  have hl := lv_entry ([.int x0]) (n := 1) (Nat.le_of_ble_eq_true rfl)
  rw [lg_entry_eq]
  generalize (lg_sl ([.int x0]) ++ List.replicate (1 - (lg_sl ([.int x0])).length) Slot.unset).toArray = ls at hl ⊢
  have hl : lv_has ls 1 [(0, .int x0)] := hl
  refine lv_iload_n hx hb dX0_isHeight_0 rfl (lv_at hl 0 rfl) ?_
  refine lv_iconst (v := (1 : Int32)) hx hb dX0_isHeight_1 (by decide) ?_
  refine lv_icmp_lt (tgt := 14) hx hb dX0_isHeight_2 (by decide) (fun hc => ?_) (fun hc => ?_)
  · replace hw := hw.1 hc
    clear hc
    refine lv_iconst (v := (0 : Int32)) hx hb dX0_isHeight_14 (by decide) ?_
    exact W.zret (v := (0 : Int32)) hx hb hr rfl (fun t ht hW => ⟨_, rfl, hw, ht⟩) (fun q h => absurd h List.not_mem_nil) dX0_isHeight_15
  · replace hw := hw.2 hc
    clear hc
    refine lv_iload_n hx hb dX0_isHeight_5 rfl (lv_at hl 0 rfl) ?_
    refine lv_iconst (v := (3 : Int32)) hx hb dX0_isHeight_6 (by decide) ?_
    refine lv_icmp_gt (tgt := 14) hx hb dX0_isHeight_7 (by decide) (fun hc => ?_) (fun hc => ?_)
    · replace hw := hw.1 hc
      clear hc
      refine lv_iconst (v := (0 : Int32)) hx hb dX0_isHeight_14 (by decide) ?_
      exact W.zret (v := (0 : Int32)) hx hb hr rfl (fun t ht hW => ⟨_, rfl, hw, ht⟩) (fun q h => absurd h List.not_mem_nil) dX0_isHeight_15
    · replace hw := hw.2 hc
      clear hc
      refine lv_iconst (v := (1 : Int32)) hx hb dX0_isHeight_10 (by decide) ?_
      refine lv_goto (tgt := 15) hx hb dX0_isHeight_11 (by decide) ?_
      exact W.zret (v := (1 : Int32)) hx hb hr rfl (fun t ht hW => ⟨_, rfl, hw, ht⟩) (fun q h => absurd h List.not_mem_nil) dX0_isHeight_15
-- X0_extendRows
set_option maxHeartbeats 4000000 in
set_option maxRecDepth 100000 in
theorem cX_extendRows (l : Launch) (dC : Nat → ClassId) (dI : Nat → Nat → Nat) (h : Nat) (ad : Nat → Nat) (ca : Nat → ClassId) (sz : Nat) (tc cl : Int32) (tr : Int64) (g : Sg) (P : Sg → Prop) (hw : wX_extendRows P tc cl tr g) : Met l yX0_extendRows wsX0_extendRows ({ frames := 3, cells := 0, slots := 0, locals := 63 }) (va_Pc [.ref h] (fun U => U.heap.size = sz ∧ va_P (dC, dI) vwCl (XL h ad ca tc cl tr g) U.heap ∧ va_K (dC, dI) vwCl (XT ca) U ∧ va_D (fun _ => True) (XL h ad ca tc cl tr g))) (va_Qv (fun (u : Sg) => P u) (at_X1 dC dI (va_A (XL h ad ca tc cl tr g) sz) h ad ca tc cl tr) (va_A (XL h ad ca tc cl tr g) sz)) 0 0 (va_A (XL h ad ca tc cl tr g) sz) := by
  refine Met.ofW (cc := cX0_extendRows) (maxL := 3) (ret := none) (by decide) rfl ?_
  intro p e s m args below meth c s₁ B0 hml hv
  obtain ⟨hargs, hsz, hP, hK, hD0⟩ := hv
  have hx := B0.exec
  have hb := B0.bytes
  have hr := B0.returns
  have hts := atoms_spec (ws := wsX0_extendRows) B0.pre
  have hown : s.vm.findClass RX0 = some m.cls := findClass_of_methodNamed B0.named
  have hlocks := B0.notSynchronized
  have inw : ∀ w ∈ wsX00, w ∈ wsX0_extendRows := fun w h => List.mem_cons_of_mem _ (List.mem_append_right _ h)
  have f9 : (Cond.fieldLink RX0 9 "FlipHeaps" "thingCount" "I").before args s = true := hts _ (by decide +kernel)
  have f32 : (Cond.fieldLink RX0 32 "FlipHeaps" "ways" "[I").before args s = true := hts _ (by decide +kernel)
  subst hsz
  have hD := hD0.self (sz := s.heap.size)
  generalize hAe : va_A (XL h ad ca tc cl tr g) s.heap.size = A at hD ⊢
  have hA : ∀ q : Nat, s.heap.size ≤ q → A q := fun q h => by rw [← hAe]; exact Or.inr h
  clear hAe hD0
  have hS : va_S A s.heap s.heap [] := va_S.rf
  have lp_61 : ∀ (n : Nat) (x1 : Int32) (g : Sg) (H : Heap) (locs : List Loc) (ls : Array Slot), Lp2 (wX_extendRows_b61 P tc cl tr) n x1 g → va_P (dC, dI) vwCl (XL h ad ca tc cl tr g) H → va_D A (XL h ad ca tc cl tr g) → va_S A s.heap H locs → lv_has ls 3 [(0, .ref h), (1, .int x1)] → W p l e (headSpec wsX0_extendRows ({ frames := 3, cells := 0, slots := 0, locals := 63 })).room s m args below meth c H locs 0 0 (MQ below (va_Qv (fun (u : Sg) => P u) (at_X1 dC dI A h ad ca tc cl tr) A) args s 0 0 A) (F0 m 61 ls []) := by
    intro n
    induction n with
    | zero => intro x1 g H locs ls hw; exact False.elim hw
    | succ n hB =>
      intro x1 g H locs ls hw hP hD hS hl
      replace hw : wX_extendRows_b61 P tc cl tr (Lp2 (wX_extendRows_b61 P tc cl tr) n) x1 g := hw
      unfold wX_extendRows_b61 at hw
      refine lv_iload_n hx hb dX0_extendRows_61 rfl (lv_at hl 1 rfl) ?_
      refine lv_aload_n hx hb dX0_extendRows_62 rfl (lv_at hl 0 rfl) ?_
      refine vp_callSi (W.runV (As := []) (rest := [.int x1]) ⟨hx, hb, hml, hown, hts⟩ (cX_setCount l dC dI h ad ca tc cl tr g _ hw) (cwV 0 hts gX0_extendRows_X0_setCount rfl rfl rfl (by decide +kernel) ⟨Nat.le_of_ble_eq_true rfl, Nat.le_of_ble_eq_true rfl⟩) ⟨fun a U g mk q => by obtain ⟨q0, qP, qK⟩ := q; exact ⟨q0, qP, va_K.moved (u := U) (U := U.calling g mk a) (Vm.Alike.refl U.vm) qK⟩, va_recv hK hP (ci := 0) (q0 := 0) rfl rfl, fun U hU hW => ⟨rfl, by rw [hU]; exact hP, va_K.moved hW.alike hK⟩⟩ rfl rfl hl.1 rfl (lv_room (Nat.le_of_ble_eq_true rfl)) dX0_extendRows_63 ⟨Nat.zero_le _, Nat.zero_le _⟩) (fun r_1 hw => ?_)
      try dsimp only at hw
      refine lv_icmp_ge (tgt := 90) hx hb dX0_extendRows_66 (by decide) (fun hc => ?_) (fun hc => ?_)
      · replace hw := hw.1 hc
        clear hc
        exact W.vret hx hb hr (fun t ht hW => ⟨⟨g, rfl, hw, by rw [ht]; exact hP, va_K.moved hW.alike hK, hD⟩, hS.F ht⟩) hS.2.2 dX0_extendRows_90
      · replace hw := hw.2 hc
        clear hc
        refine lv_aload_n hx hb dX0_extendRows_69 rfl (lv_at hl 0 rfl) ?_
        refine lv_iload_n hx hb dX0_extendRows_70 rfl (lv_at hl 1 rfl) ?_
        refine vp_callSi (W.runV (As := [.int x1]) (rest := []) ⟨hx, hb, hml, hown, hts⟩ (cX_isHeap l dC dI h ad ca tc cl tr g x1 _ hw) (cwV 1 hts gX0_extendRows_X0_isHeap rfl rfl rfl (by decide +kernel) ⟨Nat.le_of_ble_eq_true rfl, Nat.le_of_ble_eq_true rfl⟩) ⟨fun a U g mk q => by obtain ⟨q0, qP, qK⟩ := q; exact ⟨q0, qP, va_K.moved (u := U) (U := U.calling g mk a) (Vm.Alike.refl U.vm) qK⟩, va_recv hK hP (ci := 0) (q0 := 0) rfl rfl, fun U hU hW => ⟨rfl, by rw [hU]; exact hP, va_K.moved hW.alike hK⟩⟩ rfl rfl hl.1 rfl (lv_room (Nat.le_of_ble_eq_true rfl)) dX0_extendRows_71 ⟨Nat.zero_le _, Nat.zero_le _⟩) (fun r_2 hw => ?_)
        try dsimp only at hw
        refine lv_if_ne (tgt := 84) hx hb dX0_extendRows_74 (by decide) (fun hc => ?_) (fun hc => ?_)
        · replace hw := hw.1 hc
          clear hc
          refine lv_iinc (v := (x1 + 1)) (lv' := [(1, .int ((x1 + 1))), (0, .ref h)]) hx hb dX0_extendRows_84 hl (k := 1) rfl rfl (by decide) rfl (fun ls hl => ?_)
          refine lv_goto (tgt := 61) hx hb dX0_extendRows_87 (by decide) ?_
          exact hB (x1 + 1) g H locs ls hw hP hD hS (lv_sub hl [1, 0] rfl)
        · replace hw := hw.2 hc
          clear hc
          refine lv_aload_n hx hb dX0_extendRows_77 rfl (lv_at hl 0 rfl) ?_
          refine va_get (D := (dC, dI)) (ci := 0) (C := RX0) (T := TX0) (N := 13) hx hb hts inw hown hK hP 0 rfl rfl 9 (by decide) f32 (fun _ h9 => h9) rfl dX0_extendRows_78 ?_
          refine lv_iload_n hx hb dX0_extendRows_81 rfl (lv_at hl 1 rfl) ?_
          refine lv_iconst (v := (0 : Int32)) hx hb dX0_extendRows_82 (by decide) ?_
          obtain ⟨hin, hw⟩ := hw
          refine va_iast hx hb hK hP hD hS 7 6 rfl rfl hin dX0_extendRows_83 (fun H locs hP hD hS => ?_)
          obtain ⟨g_3, hg⟩ : ∃ z : Sg, z = up2 g 9 (x1).toNatClampNeg (0 : Int32) := ⟨_, rfl⟩
          replace hw := hw g_3 hg
          have hP : va_P (dC, dI) vwCl (XL h ad ca tc cl tr g_3) H := by rw [hg]; exact hP
          have hD : va_D A (XL h ad ca tc cl tr g_3) := by rw [hg]; exact hD
          clear hg
          refine lv_iinc (v := (x1 + 1)) (lv' := [(1, .int ((x1 + 1))), (0, .ref h)]) hx hb dX0_extendRows_84 hl (k := 1) rfl rfl (by decide) rfl (fun ls hl => ?_)
          refine lv_goto (tgt := 61) hx hb dX0_extendRows_87 (by decide) ?_
          exact hB (x1 + 1) g_3 H locs ls hw hP hD hS (lv_sub hl [1, 0] rfl)
  have lp_12 : ∀ (x1 : Int32) (K53 : Sg → Prop) (hK53 : ∀ (g : Sg) (H : Heap) (locs : List Loc) (ls : Array Slot), K53 g → va_P (dC, dI) vwCl (XL h ad ca tc cl tr g) H → va_D A (XL h ad ca tc cl tr g) → va_S A s.heap H locs → lv_has ls 3 [(0, .ref h), (1, .int x1)] → W p l e (headSpec wsX0_extendRows ({ frames := 3, cells := 0, slots := 0, locals := 63 })).room s m args below meth c H locs 0 0 (MQ below (va_Qv (fun (u : Sg) => P u) (at_X1 dC dI A h ad ca tc cl tr) A) args s 0 0 A) (F0 m 53 ls [])), ∀ (n : Nat) (x2 : Int32) (g : Sg) (H : Heap) (locs : List Loc) (ls : Array Slot), Lp2 (wX_extendRows_b12 P tc cl tr x1 K53) n x2 g → va_P (dC, dI) vwCl (XL h ad ca tc cl tr g) H → va_D A (XL h ad ca tc cl tr g) → va_S A s.heap H locs → lv_has ls 3 [(0, .ref h), (1, .int x1), (2, .int x2)] → W p l e (headSpec wsX0_extendRows ({ frames := 3, cells := 0, slots := 0, locals := 63 })).room s m args below meth c H locs 0 0 (MQ below (va_Qv (fun (u : Sg) => P u) (at_X1 dC dI A h ad ca tc cl tr) A) args s 0 0 A) (F0 m 12 ls []) := by
    intro x1 K53 hK53
    intro n
    induction n with
    | zero => intro x2 g H locs ls hw; exact False.elim hw
    | succ n hB =>
      intro x2 g H locs ls hw hP hD hS hl
      replace hw : wX_extendRows_b12 P tc cl tr x1 K53 (Lp2 (wX_extendRows_b12 P tc cl tr x1 K53) n) x2 g := hw
      unfold wX_extendRows_b12 at hw
      refine lv_iload_n hx hb dX0_extendRows_12 rfl (lv_at hl 2 rfl) ?_
      refine lv_aload_n hx hb dX0_extendRows_13 rfl (lv_at hl 0 rfl) ?_
      refine vp_callSi (W.runV (As := []) (rest := [.int x2]) ⟨hx, hb, hml, hown, hts⟩ (cX_setCount l dC dI h ad ca tc cl tr g _ hw) (cwV 0 hts gX0_extendRows_X0_setCount rfl rfl rfl (by decide +kernel) ⟨Nat.le_of_ble_eq_true rfl, Nat.le_of_ble_eq_true rfl⟩) ⟨fun a U g mk q => by obtain ⟨q0, qP, qK⟩ := q; exact ⟨q0, qP, va_K.moved (u := U) (U := U.calling g mk a) (Vm.Alike.refl U.vm) qK⟩, va_recv hK hP (ci := 0) (q0 := 0) rfl rfl, fun U hU hW => ⟨rfl, by rw [hU]; exact hP, va_K.moved hW.alike hK⟩⟩ rfl rfl hl.1 rfl (lv_room (Nat.le_of_ble_eq_true rfl)) dX0_extendRows_14 ⟨Nat.zero_le _, Nat.zero_le _⟩) (fun r_4 hw => ?_)
      try dsimp only at hw
      refine lv_icmp_ge (tgt := 53) hx hb dX0_extendRows_17 (by decide) (fun hc => ?_) (fun hc => ?_)
      · replace hw := hw.1 hc
        clear hc
        exact hK53 g H locs ls hw hP hD hS (lv_sub hl [0, 1] rfl)
      · replace hw := hw.2 hc
        clear hc
        refine lv_iload_n hx hb dX0_extendRows_20 rfl (lv_at hl 2 rfl) ?_
        refine lv_iload_n hx hb dX0_extendRows_21 rfl (lv_at hl 1 rfl) ?_
        refine vp_callSi (W.runS (As := [.int x2, .int x1]) (rest := []) ⟨hx, hb, hml, hown, hts⟩ (cX_has l x2 x1 _ hw) (va_cwS 2 hts gX0_extendRows_X0_has rfl rfl rfl (by decide +kernel) ⟨Nat.le_of_ble_eq_true rfl, Nat.le_of_ble_eq_true rfl⟩) ⟨fun a U g mk q => q, fun U hU hW => ⟨rfl, trivial⟩⟩ rfl rfl hl.1 rfl (lv_room (Nat.le_of_ble_eq_true rfl)) dX0_extendRows_22 ⟨Nat.zero_le _, Nat.zero_le _⟩) (fun r_5 hw => ?_)
        try dsimp only at hw
        refine lv_if_eq (tgt := 47) hx hb dX0_extendRows_25 (by decide) (fun hc => ?_) (fun hc => ?_)
        · replace hw := hw.1 hc
          clear hc
          refine lv_iinc (v := (x2 + 1)) (lv' := [(2, .int ((x2 + 1))), (0, .ref h), (1, .int x1)]) hx hb dX0_extendRows_47 hl (k := 2) rfl rfl (by decide) rfl (fun ls hl => ?_)
          refine lv_goto (tgt := 12) hx hb dX0_extendRows_50 (by decide) ?_
          exact hB (x2 + 1) g H locs ls hw hP hD hS (lv_sub hl [1, 2, 0] rfl)
        · replace hw := hw.2 hc
          clear hc
          refine lv_aload_n hx hb dX0_extendRows_28 rfl (lv_at hl 0 rfl) ?_
          refine va_get (D := (dC, dI)) (ci := 0) (C := RX0) (T := TX0) (N := 13) hx hb hts inw hown hK hP 0 rfl rfl 9 (by decide) f32 (fun _ h9 => h9) rfl dX0_extendRows_29 ?_
          refine lv_iload_n hx hb dX0_extendRows_32 rfl (lv_at hl 2 rfl) ?_
          refine lv_dup2_11 hx hb dX0_extendRows_33 rfl rfl ?_
          obtain ⟨hin, hw⟩ := hw
          refine va_iald hx hb hK hP 7 6 rfl rfl hin dX0_extendRows_34 ?_
          refine lv_aload_n hx hb dX0_extendRows_35 rfl (lv_at hl 0 rfl) ?_
          refine va_get (D := (dC, dI)) (ci := 0) (C := RX0) (T := TX0) (N := 13) hx hb hts inw hown hK hP 0 rfl rfl 9 (by decide) f32 (fun _ h9 => h9) rfl dX0_extendRows_36 ?_
          refine lv_iload_n hx hb dX0_extendRows_39 rfl (lv_at hl 2 rfl) ?_
          refine lv_iconst (v := (1 : Int32)) hx hb dX0_extendRows_40 (by decide) ?_
          refine lv_iload_n hx hb dX0_extendRows_41 rfl (lv_at hl 1 rfl) ?_
          refine lv_ishl hx hb dX0_extendRows_42 ?_
          refine lv_ixor hx hb dX0_extendRows_43 ?_
          obtain ⟨hin, hw⟩ := hw
          refine va_iald hx hb hK hP 7 6 rfl rfl hin dX0_extendRows_44 ?_
          refine lv_iadd hx hb dX0_extendRows_45 ?_
          obtain ⟨hin, hw⟩ := hw
          refine va_iast hx hb hK hP hD hS 7 6 rfl rfl hin dX0_extendRows_46 (fun H locs hP hD hS => ?_)
          obtain ⟨g_6, hg⟩ : ∃ z : Sg, z = up2 g 9 (x2).toNatClampNeg ((g 9 (x2).toNatClampNeg) + (g 9 ((x2 ^^^ ((1 : Int32) <<< (x1 &&& 31)))).toNatClampNeg)) := ⟨_, rfl⟩
          replace hw := hw g_6 hg
          have hP : va_P (dC, dI) vwCl (XL h ad ca tc cl tr g_6) H := by rw [hg]; exact hP
          have hD : va_D A (XL h ad ca tc cl tr g_6) := by rw [hg]; exact hD
          clear hg
          refine lv_iinc (v := (x2 + 1)) (lv' := [(2, .int ((x2 + 1))), (0, .ref h), (1, .int x1)]) hx hb dX0_extendRows_47 hl (k := 2) rfl rfl (by decide) rfl (fun ls hl => ?_)
          refine lv_goto (tgt := 12) hx hb dX0_extendRows_50 (by decide) ?_
          exact hB (x2 + 1) g_6 H locs ls hw hP hD hS (lv_sub hl [1, 2, 0] rfl)
  have lp_2 : ∀ (K59 : Sg → Prop) (hK59 : ∀ (g : Sg) (H : Heap) (locs : List Loc) (ls : Array Slot), K59 g → va_P (dC, dI) vwCl (XL h ad ca tc cl tr g) H → va_D A (XL h ad ca tc cl tr g) → va_S A s.heap H locs → lv_has ls 3 [(0, .ref h)] → W p l e (headSpec wsX0_extendRows ({ frames := 3, cells := 0, slots := 0, locals := 63 })).room s m args below meth c H locs 0 0 (MQ below (va_Qv (fun (u : Sg) => P u) (at_X1 dC dI A h ad ca tc cl tr) A) args s 0 0 A) (F0 m 59 ls [])), ∀ (n : Nat) (x1 : Int32) (g : Sg) (H : Heap) (locs : List Loc) (ls : Array Slot), Lp2 (wX_extendRows_b2 P tc cl tr K59) n x1 g → va_P (dC, dI) vwCl (XL h ad ca tc cl tr g) H → va_D A (XL h ad ca tc cl tr g) → va_S A s.heap H locs → lv_has ls 3 [(0, .ref h), (1, .int x1)] → W p l e (headSpec wsX0_extendRows ({ frames := 3, cells := 0, slots := 0, locals := 63 })).room s m args below meth c H locs 0 0 (MQ below (va_Qv (fun (u : Sg) => P u) (at_X1 dC dI A h ad ca tc cl tr) A) args s 0 0 A) (F0 m 2 ls []) := by
    intro K59 hK59
    intro n
    induction n with
    | zero => intro x1 g H locs ls hw; exact False.elim hw
    | succ n hB =>
      intro x1 g H locs ls hw hP hD hS hl
      replace hw : wX_extendRows_b2 P tc cl tr K59 (Lp2 (wX_extendRows_b2 P tc cl tr K59) n) x1 g := hw
      unfold wX_extendRows_b2 at hw
      refine lv_iload_n hx hb dX0_extendRows_2 rfl (lv_at hl 1 rfl) ?_
      refine lv_aload_n hx hb dX0_extendRows_3 rfl (lv_at hl 0 rfl) ?_
      refine va_get (D := (dC, dI)) (ci := 0) (C := RX0) (T := TX0) (N := 13) hx hb hts inw hown hK hP 0 rfl rfl 0 (by decide) f9 (fun _ h9 => h9) rfl dX0_extendRows_4 ?_
      refine lv_icmp_ge (tgt := 59) hx hb dX0_extendRows_7 (by decide) (fun hc => ?_) (fun hc => ?_)
      · replace hw := hw.1 hc
        clear hc
        exact hK59 g H locs ls hw hP hD hS (lv_sub hl [0] rfl)
      · replace hw := hw.2 hc
        clear hc
        refine lv_iconst (v := (0 : Int32)) hx hb dX0_extendRows_10 (by decide) ?_
        refine lv_istore_n (lv' := [(2, .int (0 : Int32)), (0, .ref h), (1, .int x1)]) hx hb dX0_extendRows_11 rfl hl (by decide) rfl (fun ls hl => ?_)
        obtain ⟨n_8, hw⟩ := hw
        refine lp_12 x1 _ ?_ n_8 (0 : Int32) g H locs ls hw hP hD hS (lv_sub hl [1, 2, 0] rfl)
        · intro g_7 H locs ls hw hP hD hS hl
          try dsimp only at hw
          refine lv_iinc (v := (x1 + 1)) (lv' := [(1, .int ((x1 + 1))), (0, .ref h)]) hx hb dX0_extendRows_53 hl (k := 1) rfl rfl (by decide) rfl (fun ls hl => ?_)
          refine lv_goto (tgt := 2) hx hb dX0_extendRows_56 (by decide) ?_
          exact hB (x1 + 1) g_7 H locs ls hw hP hD hS (lv_sub hl [1, 0] rfl)
  subst hargs
  unfold wX_extendRows at hw
  have hl := lv_entry ([.ref h]) (n := 3) (Nat.le_of_ble_eq_true rfl)
  rw [lg_entry_eq]
  generalize (lg_sl ([.ref h]) ++ List.replicate (3 - (lg_sl ([.ref h])).length) Slot.unset).toArray = ls at hl ⊢
  have hl : lv_has ls 3 [(0, .ref h)] := hl
  obtain ⟨H, hHe⟩ : ∃ z : Heap, z = s.heap := ⟨_, rfl⟩
  obtain ⟨locs, hLe⟩ : ∃ z : List Loc, z = [] := ⟨_, rfl⟩
  have hS : va_S A s.heap H locs := by rw [hHe, hLe]; exact hS
  have hP : va_P (dC, dI) vwCl (XL h ad ca tc cl tr g) H := by rw [hHe]; exact hP
  have hgo : W p l e (headSpec wsX0_extendRows ({ frames := 3, cells := 0, slots := 0, locals := 63 })).room s m ([.ref h] : List Value).toArray below meth c H locs 0 0 (MQ below (va_Qv (fun (u : Sg) => P u) (at_X1 dC dI A h ad ca tc cl tr) A) ([.ref h] : List Value).toArray s 0 0 A) (F0 m 0 ls []) := by
    clear hHe hLe
    refine lv_iconst (v := (0 : Int32)) hx hb dX0_extendRows_0 (by decide) ?_
    refine lv_istore_n (lv' := [(1, .int (0 : Int32)), (0, .ref h)]) hx hb dX0_extendRows_1 rfl hl (by decide) rfl (fun ls hl => ?_)
    obtain ⟨n_11, hw⟩ := hw
    refine lp_2 _ ?_ n_11 (0 : Int32) g H locs ls hw hP hD hS (lv_sub hl [1, 0] rfl)
    · intro g_9 H locs ls hw hP hD hS hl
      try dsimp only at hw
      refine lv_iconst (v := (0 : Int32)) hx hb dX0_extendRows_59 (by decide) ?_
      refine lv_istore_n (lv' := [(1, .int (0 : Int32)), (0, .ref h)]) hx hb dX0_extendRows_60 rfl hl (by decide) rfl (fun ls hl => ?_)
      obtain ⟨n_10, hw⟩ := hw
      exact lp_61 n_10 (0 : Int32) g_9 H locs ls hw hP hD hS (lv_sub hl [1, 0] rfl)
  rw [hHe, hLe] at hgo
  exact hgo
-- X0_fillings
set_option maxHeartbeats 4000000 in
set_option maxRecDepth 100000 in
theorem cX_fillings (l : Launch) (dC : Nat → ClassId) (dI : Nat → Nat → Nat) (h : Nat) (ad : Nat → Nat) (ca : Nat → ClassId) (sz : Nat) (tc cl : Int32) (tr : Int64) (g : Sg) (x1 : Int32) (P : Int32 → Sg → Prop) (hw : wX_fillings P tc cl tr g x1) : Met l yX0_fillings wsX0_fillings ({ frames := 4, cells := 0, slots := 0, locals := 85 }) (va_Pc [.ref h, .int x1] (fun U => U.heap.size = sz ∧ va_P (dC, dI) vwCl (XL h ad ca tc cl tr g) U.heap ∧ va_K (dC, dI) vwCl (XT ca) U ∧ va_D (fun _ => True) (XL h ad ca tc cl tr g))) (va_Qi (fun (r : Int32) (u : Sg) => P r u) (at_X1 dC dI (va_A (XL h ad ca tc cl tr g) sz) h ad ca tc cl tr) (va_A (XL h ad ca tc cl tr g) sz)) 0 0 (va_A (XL h ad ca tc cl tr g) sz) := by
  refine Met.ofW (cc := cX0_fillings) (maxL := 4) (ret := (some .int)) (by decide) rfl ?_
  intro p e s m args below meth c s₁ B0 hml hv
  obtain ⟨hargs, hsz, hP, hK, hD0⟩ := hv
  have hx := B0.exec
  have hb := B0.bytes
  have hr := B0.returns
  have hts := atoms_spec (ws := wsX0_fillings) B0.pre
  have hown : s.vm.findClass RX0 = some m.cls := findClass_of_methodNamed B0.named
  have hlocks := B0.notSynchronized
  have inw : ∀ w ∈ wsX00, w ∈ wsX0_fillings := fun w h => List.mem_cons_of_mem _ (List.mem_append_right _ h)
  have f32 : (Cond.fieldLink RX0 32 "FlipHeaps" "ways" "[I").before args s = true := hts _ (by decide +kernel)
  subst hsz
  have hD := hD0.self (sz := s.heap.size)
  generalize hAe : va_A (XL h ad ca tc cl tr g) s.heap.size = A at hD ⊢
  have hA : ∀ q : Nat, s.heap.size ≤ q → A q := fun q h => by rw [← hAe]; exact Or.inr h
  clear hAe hD0
  have hS : va_S A s.heap s.heap [] := va_S.rf
  have lp_46 : ∀ (x1 : Int32) (K61 : Sg → Prop) (hK61 : ∀ (g : Sg) (H : Heap) (locs : List Loc) (ls : Array Slot), K61 g → va_P (dC, dI) vwCl (XL h ad ca tc cl tr g) H → va_D A (XL h ad ca tc cl tr g) → va_S A s.heap H locs → lv_has ls 4 [(0, .ref h)] → W p l e (headSpec wsX0_fillings ({ frames := 4, cells := 0, slots := 0, locals := 85 })).room s m args below meth c H locs 0 0 (MQ below (va_Qi (fun (r : Int32) (u : Sg) => P r u) (at_X1 dC dI A h ad ca tc cl tr) A) args s 0 0 A) (F0 m 61 ls [])), ∀ (n : Nat) (x2 : Int32) (g : Sg) (H : Heap) (locs : List Loc) (ls : Array Slot), Lp2 (wX_fillings_b46 P tc cl tr x1 K61) n x2 g → va_P (dC, dI) vwCl (XL h ad ca tc cl tr g) H → va_D A (XL h ad ca tc cl tr g) → va_S A s.heap H locs → lv_has ls 4 [(0, .ref h), (1, .int x1), (2, .int x2)] → W p l e (headSpec wsX0_fillings ({ frames := 4, cells := 0, slots := 0, locals := 85 })).room s m args below meth c H locs 0 0 (MQ below (va_Qi (fun (r : Int32) (u : Sg) => P r u) (at_X1 dC dI A h ad ca tc cl tr) A) args s 0 0 A) (F0 m 46 ls []) := by
    intro x1 K61 hK61
    intro n
    induction n with
    | zero => intro x2 g H locs ls hw; exact False.elim hw
    | succ n hB =>
      intro x2 g H locs ls hw hP hD hS hl
      replace hw : wX_fillings_b46 P tc cl tr x1 K61 (Lp2 (wX_fillings_b46 P tc cl tr x1 K61) n) x2 g := hw
      unfold wX_fillings_b46 at hw
      refine lv_iload_n hx hb dX0_fillings_46 rfl (lv_at hl 2 rfl) ?_
      refine lv_iload_n hx hb dX0_fillings_47 rfl (lv_at hl 1 rfl) ?_
      refine lv_icmp_gt (tgt := 61) hx hb dX0_fillings_48 (by decide) (fun hc => ?_) (fun hc => ?_)
      · replace hw := hw.1 hc
        clear hc
        exact hK61 g H locs ls hw hP hD hS (lv_sub hl [0] rfl)
      · replace hw := hw.2 hc
        clear hc
        refine lv_aload_n hx hb dX0_fillings_51 rfl (lv_at hl 0 rfl) ?_
        have hFc := va_free (wc := (XL h ad ca tc cl tr g)) hD hS hA [0, 1, 2, 3, 4, 5, 6, 7, 8, 9, 10] rfl
        refine va_callv (va_runV (As := []) (rest := []) ⟨hx, hb, hml, hown, hts⟩ (cX_extendRows l dC dI h ad ca H.size tc cl tr g _ hw) (cwV 0 hts gX0_fillings_X0_extendRows rfl rfl rfl (by decide +kernel) ⟨Nat.le_of_ble_eq_true rfl, Nat.le_of_ble_eq_true rfl⟩) ⟨fun a U g mk q => by obtain ⟨q0, q1, qP, qK, qD⟩ := q; exact ⟨q0, q1, qP, va_K.moved (u := U) (U := U.calling g mk a) (Vm.Alike.refl U.vm) qK, qD⟩, va_recv hK hP (ci := 0) (q0 := 0) rfl rfl, fun U hU hW => ⟨rfl, by rw [hU], by rw [hU]; exact hP, va_K.moved hW.alike hK, hD.weaken (fun _ _ _ _ => trivial)⟩⟩ rfl rfl hl.1 rfl (lv_room (Nat.le_of_ble_eq_true rfl)) dX0_fillings_52 ⟨Nat.zero_le _, Nat.zero_le _⟩) hS (fun q _ h => hFc q h) hFc (fun g_1 t H1 locs ht hvm hw hB hz1 hk1 hS => ?_)
        obtain ⟨hP1, hK1, hD1⟩ := hB
        rw [ht] at hP1
        have hP : va_P (dC, dI) vwCl (XL h ad ca tc cl tr g_1) H1 := hP1
        have hD : va_D A (XL h ad ca tc cl tr g_1) := hD1.weaken (fun _ _ _ h => hFc _ h)
        clear hP1 hK1 hD1 hFc hk1 hz1 hvm ht
        generalize H1 = H at hP hS ⊢
        try dsimp only at hw
        refine lv_iinc (v := (x2 + 1)) (lv' := [(2, .int ((x2 + 1))), (0, .ref h), (1, .int x1)]) hx hb dX0_fillings_55 hl (k := 2) rfl rfl (by decide) rfl (fun ls hl => ?_)
        refine lv_goto (tgt := 46) hx hb dX0_fillings_58 (by decide) ?_
        exact hB (x2 + 1) g_1 H locs ls hw hP hD hS (lv_sub hl [1, 2, 0] rfl)
  have lp_65 : ∀ (n : Nat) (x2 : Int32) (x3 : Int32) (g : Sg) (H : Heap) (locs : List Loc) (ls : Array Slot), Lp3 (wX_fillings_b65 P tc cl tr) n x2 x3 g → va_P (dC, dI) vwCl (XL h ad ca tc cl tr g) H → va_D A (XL h ad ca tc cl tr g) → va_S A s.heap H locs → lv_has ls 4 [(0, .ref h), (2, .int x2), (3, .int x3)] → W p l e (headSpec wsX0_fillings ({ frames := 4, cells := 0, slots := 0, locals := 85 })).room s m args below meth c H locs 0 0 (MQ below (va_Qi (fun (r : Int32) (u : Sg) => P r u) (at_X1 dC dI A h ad ca tc cl tr) A) args s 0 0 A) (F0 m 65 ls []) := by
    intro n
    induction n with
    | zero => intro x2 x3 g H locs ls hw; exact False.elim hw
    | succ n hB =>
      intro x2 x3 g H locs ls hw hP hD hS hl
      replace hw : wX_fillings_b65 P tc cl tr (Lp3 (wX_fillings_b65 P tc cl tr) n) x2 x3 g := hw
      unfold wX_fillings_b65 at hw
      refine lv_iload_n hx hb dX0_fillings_65 rfl (lv_at hl 2 rfl) ?_
      refine lv_aload_n hx hb dX0_fillings_66 rfl (lv_at hl 0 rfl) ?_
      refine vp_callSi (W.runV (As := []) (rest := [.int x3]) ⟨hx, hb, hml, hown, hts⟩ (cX_setCount l dC dI h ad ca tc cl tr g _ hw) (cwV 0 hts gX0_fillings_X0_setCount rfl rfl rfl (by decide +kernel) ⟨Nat.le_of_ble_eq_true rfl, Nat.le_of_ble_eq_true rfl⟩) ⟨fun a U g mk q => by obtain ⟨q0, qP, qK⟩ := q; exact ⟨q0, qP, va_K.moved (u := U) (U := U.calling g mk a) (Vm.Alike.refl U.vm) qK⟩, va_recv hK hP (ci := 0) (q0 := 0) rfl rfl, fun U hU hW => ⟨rfl, by rw [hU]; exact hP, va_K.moved hW.alike hK⟩⟩ rfl rfl hl.1 rfl (lv_room (Nat.le_of_ble_eq_true rfl)) dX0_fillings_67 ⟨Nat.zero_le _, Nat.zero_le _⟩) (fun r_2 hw => ?_)
      try dsimp only at hw
      refine lv_icmp_ge (tgt := 88) hx hb dX0_fillings_70 (by decide) (fun hc => ?_) (fun hc => ?_)
      · replace hw := hw.1 hc
        clear hc
        refine lv_iload_n hx hb dX0_fillings_88 rfl (lv_at hl 1 rfl) ?_
        exact W.iret (v := x2) hx hb hr (fun t ht hW => ⟨⟨x2, g, rfl, hw, by rw [ht]; exact hP, va_K.moved hW.alike hK, hD⟩, hS.F ht⟩) hS.2.2 dX0_fillings_89
      · replace hw := hw.2 hc
        clear hc
        refine lv_iload_n hx hb dX0_fillings_73 rfl (lv_at hl 1 rfl) ?_
        refine lv_aload_n hx hb dX0_fillings_74 rfl (lv_at hl 0 rfl) ?_
        refine va_get (D := (dC, dI)) (ci := 0) (C := RX0) (T := TX0) (N := 13) hx hb hts inw hown hK hP 0 rfl rfl 9 (by decide) f32 (fun _ h9 => h9) rfl dX0_fillings_75 ?_
        refine lv_iload_n hx hb dX0_fillings_78 rfl (lv_at hl 2 rfl) ?_
        obtain ⟨hin, hw⟩ := hw
        refine va_iald hx hb hK hP 7 6 rfl rfl hin dX0_fillings_79 ?_
        refine lv_iadd hx hb dX0_fillings_80 ?_
        refine lv_topi (fun x2_3 hv => ?_)
        replace hw := hw x2_3 hv
        clear hv
        refine lv_istore_n (lv' := [(2, .int x2_3), (0, .ref h), (3, .int x3)]) hx hb dX0_fillings_81 rfl hl (by decide) rfl (fun ls hl => ?_)
        refine lv_iinc (v := (x3 + 1)) (lv' := [(3, .int ((x3 + 1))), (2, .int x2_3), (0, .ref h)]) hx hb dX0_fillings_82 hl (k := 2) rfl rfl (by decide) rfl (fun ls hl => ?_)
        refine lv_goto (tgt := 65) hx hb dX0_fillings_85 (by decide) ?_
        exact hB x2_3 (x3 + 1) g H locs ls hw hP hD hS (lv_sub hl [2, 1, 0] rfl)
  have jn_37 : ∀ (B : Int32 → Sg → Prop) (K44 : Sg → Prop) (x1 : Int32) (x2 : Int32) (y1 : Int32) (y2 : Int32) (g : Sg) (hB : ∀ (x2 : Int32) (g : Sg) (H : Heap) (locs : List Loc) (ls : Array Slot), B x2 g → va_P (dC, dI) vwCl (XL h ad ca tc cl tr g) H → va_D A (XL h ad ca tc cl tr g) → va_S A s.heap H locs → lv_has ls 4 [(0, .ref h), (1, .int x1), (2, .int x2)] → W p l e (headSpec wsX0_fillings ({ frames := 4, cells := 0, slots := 0, locals := 85 })).room s m args below meth c H locs 0 0 (MQ below (va_Qi (fun (r : Int32) (u : Sg) => P r u) (at_X1 dC dI A h ad ca tc cl tr) A) args s 0 0 A) (F0 m 11 ls [])) (hK44 : ∀ (g : Sg) (H : Heap) (locs : List Loc) (ls : Array Slot), K44 g → va_P (dC, dI) vwCl (XL h ad ca tc cl tr g) H → va_D A (XL h ad ca tc cl tr g) → va_S A s.heap H locs → lv_has ls 4 [(0, .ref h), (1, .int x1)] → W p l e (headSpec wsX0_fillings ({ frames := 4, cells := 0, slots := 0, locals := 85 })).room s m args below meth c H locs 0 0 (MQ below (va_Qi (fun (r : Int32) (u : Sg) => P r u) (at_X1 dC dI A h ad ca tc cl tr) A) args s 0 0 A) (F0 m 44 ls [])) (H : Heap) (locs : List Loc) (ls : Array Slot), wX_fillings_j37 P tc cl tr B K44 x1 x2 y1 y2 g → va_P (dC, dI) vwCl (XL h ad ca tc cl tr g) H → va_D A (XL h ad ca tc cl tr g) → va_S A s.heap H locs → lv_has ls 4 [(0, .ref h), (1, .int x1), (2, .int x2)] → W p l e (headSpec wsX0_fillings ({ frames := 4, cells := 0, slots := 0, locals := 85 })).room s m args below meth c H locs 0 0 (MQ below (va_Qi (fun (r : Int32) (u : Sg) => P r u) (at_X1 dC dI A h ad ca tc cl tr) A) args s 0 0 A) (F0 m 37 ls [.int y2, .int y1, .ref (ad 9)]) := by
    intro B K44 x1 x2 y1 y2 g hB hK44 H locs ls hw hP hD hS hl
    unfold wX_fillings_j37 at hw
    obtain ⟨hin, hw⟩ := hw
    refine va_iast hx hb hK hP hD hS 7 6 rfl rfl hin dX0_fillings_37 (fun H locs hP hD hS => ?_)
    obtain ⟨g_4, hg⟩ : ∃ z : Sg, z = up2 g 9 (y1).toNatClampNeg y2 := ⟨_, rfl⟩
    replace hw := hw g_4 hg
    have hP : va_P (dC, dI) vwCl (XL h ad ca tc cl tr g_4) H := by rw [hg]; exact hP
    have hD : va_D A (XL h ad ca tc cl tr g_4) := by rw [hg]; exact hD
    clear hg
    refine lv_iinc (v := (x2 + 1)) (lv' := [(2, .int ((x2 + 1))), (0, .ref h), (1, .int x1)]) hx hb dX0_fillings_38 hl (k := 2) rfl rfl (by decide) rfl (fun ls hl => ?_)
    refine lv_goto (tgt := 11) hx hb dX0_fillings_41 (by decide) ?_
    exact hB (x2 + 1) g_4 H locs ls hw hP hD hS (lv_sub hl [1, 2, 0] rfl)
  have lp_11 : ∀ (x1 : Int32) (K44 : Sg → Prop) (hK44 : ∀ (g : Sg) (H : Heap) (locs : List Loc) (ls : Array Slot), K44 g → va_P (dC, dI) vwCl (XL h ad ca tc cl tr g) H → va_D A (XL h ad ca tc cl tr g) → va_S A s.heap H locs → lv_has ls 4 [(0, .ref h), (1, .int x1)] → W p l e (headSpec wsX0_fillings ({ frames := 4, cells := 0, slots := 0, locals := 85 })).room s m args below meth c H locs 0 0 (MQ below (va_Qi (fun (r : Int32) (u : Sg) => P r u) (at_X1 dC dI A h ad ca tc cl tr) A) args s 0 0 A) (F0 m 44 ls [])), ∀ (n : Nat) (x2 : Int32) (g : Sg) (H : Heap) (locs : List Loc) (ls : Array Slot), Lp2 (wX_fillings_b11 P tc cl tr x1 K44) n x2 g → va_P (dC, dI) vwCl (XL h ad ca tc cl tr g) H → va_D A (XL h ad ca tc cl tr g) → va_S A s.heap H locs → lv_has ls 4 [(0, .ref h), (1, .int x1), (2, .int x2)] → W p l e (headSpec wsX0_fillings ({ frames := 4, cells := 0, slots := 0, locals := 85 })).room s m args below meth c H locs 0 0 (MQ below (va_Qi (fun (r : Int32) (u : Sg) => P r u) (at_X1 dC dI A h ad ca tc cl tr) A) args s 0 0 A) (F0 m 11 ls []) := by
    intro x1 K44 hK44
    intro n
    induction n with
    | zero => intro x2 g H locs ls hw; exact False.elim hw
    | succ n hB =>
      intro x2 g H locs ls hw hP hD hS hl
      replace hw : wX_fillings_b11 P tc cl tr x1 K44 (Lp2 (wX_fillings_b11 P tc cl tr x1 K44) n) x2 g := hw
      unfold wX_fillings_b11 at hw
      refine lv_iload_n hx hb dX0_fillings_11 rfl (lv_at hl 2 rfl) ?_
      refine lv_aload_n hx hb dX0_fillings_12 rfl (lv_at hl 0 rfl) ?_
      refine vp_callSi (W.runV (As := []) (rest := [.int x2]) ⟨hx, hb, hml, hown, hts⟩ (cX_setCount l dC dI h ad ca tc cl tr g _ hw) (cwV 0 hts gX0_fillings_X0_setCount rfl rfl rfl (by decide +kernel) ⟨Nat.le_of_ble_eq_true rfl, Nat.le_of_ble_eq_true rfl⟩) ⟨fun a U g mk q => by obtain ⟨q0, qP, qK⟩ := q; exact ⟨q0, qP, va_K.moved (u := U) (U := U.calling g mk a) (Vm.Alike.refl U.vm) qK⟩, va_recv hK hP (ci := 0) (q0 := 0) rfl rfl, fun U hU hW => ⟨rfl, by rw [hU]; exact hP, va_K.moved hW.alike hK⟩⟩ rfl rfl hl.1 rfl (lv_room (Nat.le_of_ble_eq_true rfl)) dX0_fillings_13 ⟨Nat.zero_le _, Nat.zero_le _⟩) (fun r_5 hw => ?_)
      try dsimp only at hw
      refine lv_icmp_ge (tgt := 44) hx hb dX0_fillings_16 (by decide) (fun hc => ?_) (fun hc => ?_)
      · replace hw := hw.1 hc
        clear hc
        exact hK44 g H locs ls hw hP hD hS (lv_sub hl [0, 1] rfl)
      · replace hw := hw.2 hc
        clear hc
        refine lv_aload_n hx hb dX0_fillings_19 rfl (lv_at hl 0 rfl) ?_
        refine va_get (D := (dC, dI)) (ci := 0) (C := RX0) (T := TX0) (N := 13) hx hb hts inw hown hK hP 0 rfl rfl 9 (by decide) f32 (fun _ h9 => h9) rfl dX0_fillings_20 ?_
        refine lv_iload_n hx hb dX0_fillings_23 rfl (lv_at hl 2 rfl) ?_
        refine lv_aload_n hx hb dX0_fillings_24 rfl (lv_at hl 0 rfl) ?_
        refine lv_iload_n hx hb dX0_fillings_25 rfl (lv_at hl 2 rfl) ?_
        refine vp_callSi (W.runV (As := [.int x2]) (rest := [.int x2, .ref (ad 9)]) ⟨hx, hb, hml, hown, hts⟩ (cX_isHeap l dC dI h ad ca tc cl tr g x2 _ hw) (cwV 1 hts gX0_fillings_X0_isHeap rfl rfl rfl (by decide +kernel) ⟨Nat.le_of_ble_eq_true rfl, Nat.le_of_ble_eq_true rfl⟩) ⟨fun a U g mk q => by obtain ⟨q0, qP, qK⟩ := q; exact ⟨q0, qP, va_K.moved (u := U) (U := U.calling g mk a) (Vm.Alike.refl U.vm) qK⟩, va_recv hK hP (ci := 0) (q0 := 0) rfl rfl, fun U hU hW => ⟨rfl, by rw [hU]; exact hP, va_K.moved hW.alike hK⟩⟩ rfl rfl hl.1 rfl (lv_room (Nat.le_of_ble_eq_true rfl)) dX0_fillings_26 ⟨Nat.zero_le _, Nat.zero_le _⟩) (fun r_6 hw => ?_)
        try dsimp only at hw
        refine lv_if_eq (tgt := 36) hx hb dX0_fillings_29 (by decide) (fun hc => ?_) (fun hc => ?_)
        · replace hw := hw.1 hc
          clear hc
          refine lv_iconst (v := (0 : Int32)) hx hb dX0_fillings_36 (by decide) ?_
          exact jn_37 _ _ x1 x2 x2 (0 : Int32) g hB hK44 H locs ls hw hP hD hS (lv_sub hl [0, 1, 2] rfl)
        · replace hw := hw.2 hc
          clear hc
          refine lv_iconst (v := (1 : Int32)) hx hb dX0_fillings_32 (by decide) ?_
          refine lv_goto (tgt := 37) hx hb dX0_fillings_33 (by decide) ?_
          exact jn_37 _ _ x1 x2 x2 (1 : Int32) g hB hK44 H locs ls hw hP hD hS (lv_sub hl [0, 1, 2] rfl)
  subst hargs
  unfold wX_fillings at hw
  have hl := lv_entry ([.ref h, .int x1]) (n := 4) (Nat.le_of_ble_eq_true rfl)
  rw [lg_entry_eq]
  generalize (lg_sl ([.ref h, .int x1]) ++ List.replicate (4 - (lg_sl ([.ref h, .int x1])).length) Slot.unset).toArray = ls at hl ⊢
  have hl : lv_has ls 4 [(0, .ref h), (1, .int x1)] := hl
  obtain ⟨H, hHe⟩ : ∃ z : Heap, z = s.heap := ⟨_, rfl⟩
  obtain ⟨locs, hLe⟩ : ∃ z : List Loc, z = [] := ⟨_, rfl⟩
  have hS : va_S A s.heap H locs := by rw [hHe, hLe]; exact hS
  have hP : va_P (dC, dI) vwCl (XL h ad ca tc cl tr g) H := by rw [hHe]; exact hP
  have hgo : W p l e (headSpec wsX0_fillings ({ frames := 4, cells := 0, slots := 0, locals := 85 })).room s m ([.ref h, .int x1] : List Value).toArray below meth c H locs 0 0 (MQ below (va_Qi (fun (r : Int32) (u : Sg) => P r u) (at_X1 dC dI A h ad ca tc cl tr) A) ([.ref h, .int x1] : List Value).toArray s 0 0 A) (F0 m 0 ls []) := by
    clear hHe hLe
    refine lv_iload_n hx hb dX0_fillings_0 rfl (lv_at hl 1 rfl) ?_
    refine vp_callSi (W.runS (As := [.int x1]) (rest := []) ⟨hx, hb, hml, hown, hts⟩ (cX_isHeight l x1 _ hw) (va_cwS 1 hts gX0_fillings_X0_isHeight rfl rfl rfl (by decide +kernel) ⟨Nat.le_of_ble_eq_true rfl, Nat.le_of_ble_eq_true rfl⟩) ⟨fun a U g mk q => q, fun U hU hW => ⟨rfl, trivial⟩⟩ rfl rfl hl.1 rfl (lv_room (Nat.le_of_ble_eq_true rfl)) dX0_fillings_1 ⟨Nat.zero_le _, Nat.zero_le _⟩) (fun r_7 hw => ?_)
    try dsimp only at hw
    refine lv_if_ne (tgt := 9) hx hb dX0_fillings_4 (by decide) (fun hc => ?_) (fun hc => ?_)
    · replace hw := hw.1 hc
      clear hc
      refine lv_iconst (v := (0 : Int32)) hx hb dX0_fillings_9 (by decide) ?_
      refine lv_istore_n (lv' := [(2, .int (0 : Int32)), (0, .ref h), (1, .int x1)]) hx hb dX0_fillings_10 rfl hl (by decide) rfl (fun ls hl => ?_)
      obtain ⟨n_12, hw⟩ := hw
      refine lp_11 x1 _ ?_ n_12 (0 : Int32) g H locs ls hw hP hD hS (lv_sub hl [1, 2, 0] rfl)
      · intro g_8 H locs ls hw hP hD hS hl
        try dsimp only at hw
        refine lv_iconst (v := (2 : Int32)) hx hb dX0_fillings_44 (by decide) ?_
        refine lv_istore_n (lv' := [(2, .int (2 : Int32)), (0, .ref h), (1, .int x1)]) hx hb dX0_fillings_45 rfl hl (by decide) rfl (fun ls hl => ?_)
        obtain ⟨n_11, hw⟩ := hw
        refine lp_46 x1 _ ?_ n_11 (2 : Int32) g_8 H locs ls hw hP hD hS (lv_sub hl [1, 2, 0] rfl)
        · intro g_9 H locs ls hw hP hD hS hl
          try dsimp only at hw
          refine lv_iconst (v := (0 : Int32)) hx hb dX0_fillings_61 (by decide) ?_
          refine lv_istore_n (lv' := [(2, .int (0 : Int32)), (0, .ref h)]) hx hb dX0_fillings_62 rfl hl (by decide) rfl (fun ls hl => ?_)
          refine lv_iconst (v := (0 : Int32)) hx hb dX0_fillings_63 (by decide) ?_
          refine lv_istore_n (lv' := [(3, .int (0 : Int32)), (2, .int (0 : Int32)), (0, .ref h)]) hx hb dX0_fillings_64 rfl hl (by decide) rfl (fun ls hl => ?_)
          obtain ⟨n_10, hw⟩ := hw
          exact lp_65 n_10 (0 : Int32) (0 : Int32) g_9 H locs ls hw hP hD hS (lv_sub hl [2, 1, 0] rfl)
    · replace hw := hw.2 hc
      clear hc
      refine lv_iconst (v := (-1 : Int32)) hx hb dX0_fillings_7 (by decide) ?_
      exact W.iret (v := (-1 : Int32)) hx hb hr (fun t ht hW => ⟨⟨(-1 : Int32), g, rfl, hw, by rw [ht]; exact hP, va_K.moved hW.alike hK, hD⟩, hS.F ht⟩) hS.2.2 dX0_fillings_8
  rw [hHe, hLe] at hgo
  exact hgo
-- X0_digitsFallUpwards
set_option maxHeartbeats 4000000 in
set_option maxRecDepth 100000 in
theorem cX_digitsFallUpwards (l : Launch) (dC : Nat → ClassId) (dI : Nat → Nat → Nat) (h : Nat) (ad : Nat → Nat) (ca : Nat → ClassId) (tc cl : Int32) (tr : Int64) (g : Sg) (P : Int32 → Prop) (hw : wX_digitsFallUpwards P tc cl tr g) : Met l yX0_digitsFallUpwards wsX0_digitsFallUpwards ({ frames := 1, cells := 0, slots := 0, locals := 21 }) (va_Pc [.ref h] (fun U => va_P (dC, dI) vwCl (XL h ad ca tc cl tr g) U.heap ∧ va_K (dC, dI) vwCl (XT ca) U)) (vp_Si P) 0 0 (fun _ => False) := by
  refine Met.ofW (cc := cX0_digitsFallUpwards) (maxL := 3) (ret := (some .boolean)) (by decide) rfl ?_
  intro p e s m args below meth c s₁ B0 hml hv
  obtain ⟨hargs, hP, hK⟩ := hv
  have hx := B0.exec
  have hb := B0.bytes
  have hr := B0.returns
  have hts := atoms_spec (ws := wsX0_digitsFallUpwards) B0.pre
  have hown : s.vm.findClass RX0 = some m.cls := findClass_of_methodNamed B0.named
  have hlocks := B0.notSynchronized
  have inw : ∀ w ∈ wsX00, w ∈ wsX0_digitsFallUpwards := fun w h => List.mem_cons_of_mem _ (List.mem_append_right _ h)
  have f9 : (Cond.fieldLink RX0 9 "FlipHeaps" "thingCount" "I").before args s = true := hts _ (by decide +kernel)
  have f13 : (Cond.fieldLink RX0 13 "FlipHeaps" "under" "[I").before args s = true := hts _ (by decide +kernel)
  have f26 : (Cond.fieldLink RX0 26 "FlipHeaps" "digits" "[I").before args s = true := hts _ (by decide +kernel)
  have lp_12 : ∀ (x1 : Int32) (K53 : Prop) (hK53 : ∀ (ls : Array Slot), K53 → lv_has ls 3 [(0, .ref h), (1, .int x1)] → W p l e (headSpec wsX0_digitsFallUpwards ({ frames := 1, cells := 0, slots := 0, locals := 21 })).room s m args below meth c s.heap [] 0 0 (MQ below (vp_Si P) args s 0 0 (fun _ => False)) (F0 m 53 ls [])), ∀ (n : Nat) (x2 : Int32) (ls : Array Slot), Lp1 (wX_digitsFallUpwards_b12 P tc cl tr g x1 K53) n x2 → lv_has ls 3 [(0, .ref h), (1, .int x1), (2, .int x2)] → W p l e (headSpec wsX0_digitsFallUpwards ({ frames := 1, cells := 0, slots := 0, locals := 21 })).room s m args below meth c s.heap [] 0 0 (MQ below (vp_Si P) args s 0 0 (fun _ => False)) (F0 m 12 ls []) := by
    intro x1 K53 hK53
    intro n
    induction n with
    | zero => intro x2 ls hw; exact False.elim hw
    | succ n hB =>
      intro x2 ls hw hl
      replace hw : wX_digitsFallUpwards_b12 P tc cl tr g x1 K53 (Lp1 (wX_digitsFallUpwards_b12 P tc cl tr g x1 K53) n) x2 := hw
      unfold wX_digitsFallUpwards_b12 at hw
      refine lv_iload_n hx hb dX0_digitsFallUpwards_12 rfl (lv_at hl 2 rfl) ?_
      refine lv_iload_n hx hb dX0_digitsFallUpwards_13 rfl (lv_at hl 1 rfl) ?_
      refine lv_icmp_ge (tgt := 53) hx hb dX0_digitsFallUpwards_14 (by decide) (fun hc => ?_) (fun hc => ?_)
      · replace hw := hw.1 hc
        clear hc
        exact hK53 ls hw (lv_sub hl [0, 1] rfl)
      · replace hw := hw.2 hc
        clear hc
        refine lv_aload_n hx hb dX0_digitsFallUpwards_17 rfl (lv_at hl 0 rfl) ?_
        refine va_get (D := (dC, dI)) (ci := 0) (C := RX0) (T := TX0) (N := 13) hx hb hts inw hown hK hP 0 rfl rfl 3 (by decide) f13 (fun _ h9 => h9) rfl dX0_digitsFallUpwards_18 ?_
        refine lv_iload_n hx hb dX0_digitsFallUpwards_21 rfl (lv_at hl 1 rfl) ?_
        obtain ⟨hin, hw⟩ := hw
        refine va_iald hx hb hK hP 1 0 rfl rfl hin dX0_digitsFallUpwards_22 ?_
        refine lv_iload_n hx hb dX0_digitsFallUpwards_23 rfl (lv_at hl 2 rfl) ?_
        refine vp_callSi (W.runS (As := [.int ((g 3 (x1).toNatClampNeg)), .int x2]) (rest := []) ⟨hx, hb, hml, hown, hts⟩ (cX_has l (g 3 (x1).toNatClampNeg) x2 _ hw) (va_cwS 2 hts gX0_digitsFallUpwards_X0_has rfl rfl rfl (by decide +kernel) ⟨Nat.le_of_ble_eq_true rfl, Nat.le_of_ble_eq_true rfl⟩) ⟨fun a U g mk q => q, fun U hU hW => ⟨rfl, trivial⟩⟩ rfl rfl hl.1 rfl (lv_room (Nat.le_of_ble_eq_true rfl)) dX0_digitsFallUpwards_24 ⟨Nat.zero_le _, Nat.zero_le _⟩) (fun r_1 hw => ?_)
        try dsimp only at hw
        refine lv_if_eq (tgt := 47) hx hb dX0_digitsFallUpwards_27 (by decide) (fun hc => ?_) (fun hc => ?_)
        · replace hw := hw.1 hc
          clear hc
          refine lv_iinc (v := (x2 + 1)) (lv' := [(2, .int ((x2 + 1))), (0, .ref h), (1, .int x1)]) hx hb dX0_digitsFallUpwards_47 hl (k := 2) rfl rfl (by decide) rfl (fun ls hl => ?_)
          refine lv_goto (tgt := 12) hx hb dX0_digitsFallUpwards_50 (by decide) ?_
          exact hB (x2 + 1) ls hw (lv_sub hl [1, 2, 0] rfl)
        · replace hw := hw.2 hc
          clear hc
          refine lv_aload_n hx hb dX0_digitsFallUpwards_30 rfl (lv_at hl 0 rfl) ?_
          refine va_get (D := (dC, dI)) (ci := 0) (C := RX0) (T := TX0) (N := 13) hx hb hts inw hown hK hP 0 rfl rfl 7 (by decide) f26 (fun _ h9 => h9) rfl dX0_digitsFallUpwards_31 ?_
          refine lv_iload_n hx hb dX0_digitsFallUpwards_34 rfl (lv_at hl 2 rfl) ?_
          obtain ⟨hin, hw⟩ := hw
          refine va_iald hx hb hK hP 5 4 rfl rfl hin dX0_digitsFallUpwards_35 ?_
          refine lv_aload_n hx hb dX0_digitsFallUpwards_36 rfl (lv_at hl 0 rfl) ?_
          refine va_get (D := (dC, dI)) (ci := 0) (C := RX0) (T := TX0) (N := 13) hx hb hts inw hown hK hP 0 rfl rfl 7 (by decide) f26 (fun _ h9 => h9) rfl dX0_digitsFallUpwards_37 ?_
          refine lv_iload_n hx hb dX0_digitsFallUpwards_40 rfl (lv_at hl 1 rfl) ?_
          obtain ⟨hin, hw⟩ := hw
          refine va_iald hx hb hK hP 5 4 rfl rfl hin dX0_digitsFallUpwards_41 ?_
          refine lv_icmp_ge (tgt := 47) hx hb dX0_digitsFallUpwards_42 (by decide) (fun hc => ?_) (fun hc => ?_)
          · replace hw := hw.1 hc
            clear hc
            refine lv_iinc (v := (x2 + 1)) (lv' := [(2, .int ((x2 + 1))), (0, .ref h), (1, .int x1)]) hx hb dX0_digitsFallUpwards_47 hl (k := 2) rfl rfl (by decide) rfl (fun ls hl => ?_)
            refine lv_goto (tgt := 12) hx hb dX0_digitsFallUpwards_50 (by decide) ?_
            exact hB (x2 + 1) ls hw (lv_sub hl [1, 2, 0] rfl)
          · replace hw := hw.2 hc
            clear hc
            refine lv_iconst (v := (0 : Int32)) hx hb dX0_digitsFallUpwards_45 (by decide) ?_
            exact W.zret (v := (0 : Int32)) hx hb hr rfl (fun t ht hW => ⟨_, rfl, hw, ht⟩) (fun q h => absurd h List.not_mem_nil) dX0_digitsFallUpwards_46
  have lp_2 : ∀ (n : Nat) (x1 : Int32) (ls : Array Slot), Lp1 (wX_digitsFallUpwards_b2 P tc cl tr g) n x1 → lv_has ls 3 [(0, .ref h), (1, .int x1)] → W p l e (headSpec wsX0_digitsFallUpwards ({ frames := 1, cells := 0, slots := 0, locals := 21 })).room s m args below meth c s.heap [] 0 0 (MQ below (vp_Si P) args s 0 0 (fun _ => False)) (F0 m 2 ls []) := by
    intro n
    induction n with
    | zero => intro x1 ls hw; exact False.elim hw
    | succ n hB =>
      intro x1 ls hw hl
      replace hw : wX_digitsFallUpwards_b2 P tc cl tr g (Lp1 (wX_digitsFallUpwards_b2 P tc cl tr g) n) x1 := hw
      unfold wX_digitsFallUpwards_b2 at hw
      refine lv_iload_n hx hb dX0_digitsFallUpwards_2 rfl (lv_at hl 1 rfl) ?_
      refine lv_aload_n hx hb dX0_digitsFallUpwards_3 rfl (lv_at hl 0 rfl) ?_
      refine va_get (D := (dC, dI)) (ci := 0) (C := RX0) (T := TX0) (N := 13) hx hb hts inw hown hK hP 0 rfl rfl 0 (by decide) f9 (fun _ h9 => h9) rfl dX0_digitsFallUpwards_4 ?_
      refine lv_icmp_ge (tgt := 59) hx hb dX0_digitsFallUpwards_7 (by decide) (fun hc => ?_) (fun hc => ?_)
      · replace hw := hw.1 hc
        clear hc
        refine lv_iconst (v := (1 : Int32)) hx hb dX0_digitsFallUpwards_59 (by decide) ?_
        exact W.zret (v := (1 : Int32)) hx hb hr rfl (fun t ht hW => ⟨_, rfl, hw, ht⟩) (fun q h => absurd h List.not_mem_nil) dX0_digitsFallUpwards_60
      · replace hw := hw.2 hc
        clear hc
        refine lv_iconst (v := (0 : Int32)) hx hb dX0_digitsFallUpwards_10 (by decide) ?_
        refine lv_istore_n (lv' := [(2, .int (0 : Int32)), (0, .ref h), (1, .int x1)]) hx hb dX0_digitsFallUpwards_11 rfl hl (by decide) rfl (fun ls hl => ?_)
        obtain ⟨n_2, hw⟩ := hw
        refine lp_12 x1 _ ?_ n_2 (0 : Int32) ls hw (lv_sub hl [1, 2, 0] rfl)
        · intro ls hw hl
          try dsimp only at hw
          refine lv_iinc (v := (x1 + 1)) (lv' := [(1, .int ((x1 + 1))), (0, .ref h)]) hx hb dX0_digitsFallUpwards_53 hl (k := 1) rfl rfl (by decide) rfl (fun ls hl => ?_)
          refine lv_goto (tgt := 2) hx hb dX0_digitsFallUpwards_56 (by decide) ?_
          exact hB (x1 + 1) ls hw (lv_sub hl [1, 0] rfl)
  subst hargs
  unfold wX_digitsFallUpwards at hw
  have hl := lv_entry ([.ref h]) (n := 3) (Nat.le_of_ble_eq_true rfl)
  rw [lg_entry_eq]
  generalize (lg_sl ([.ref h]) ++ List.replicate (3 - (lg_sl ([.ref h])).length) Slot.unset).toArray = ls at hl ⊢
  have hl : lv_has ls 3 [(0, .ref h)] := hl
  refine lv_iconst (v := (0 : Int32)) hx hb dX0_digitsFallUpwards_0 (by decide) ?_
  refine lv_istore_n (lv' := [(1, .int (0 : Int32)), (0, .ref h)]) hx hb dX0_digitsFallUpwards_1 rfl hl (by decide) rfl (fun ls hl => ?_)
  obtain ⟨n_3, hw⟩ := hw
  exact lp_2 n_3 (0 : Int32) ls hw (lv_sub hl [1, 0] rfl)
-- X0_readFilling
set_option maxHeartbeats 4000000 in
set_option maxRecDepth 100000 in
theorem cX_readFilling (l : Launch) (dC : Nat → ClassId) (dI : Nat → Nat → Nat) (h : Nat) (ad : Nat → Nat) (ca : Nat → ClassId) (sz : Nat) (tc cl : Int32) (tr : Int64) (g : Sg) (x1 : Int32) (x2 : Int32) (P : Int32 → Sg → Prop) (hw : wX_readFilling P tc cl tr g x1 x2) : Met l yX0_readFilling wsX0_readFilling ({ frames := 2, cells := 0, slots := 0, locals := 43 }) (va_Pc [.ref h, .int x1, .int x2] (fun U => U.heap.size = sz ∧ va_P (dC, dI) vwCl (XL h ad ca tc cl tr g) U.heap ∧ va_K (dC, dI) vwCl (XT ca) U ∧ va_D (fun _ => True) (XL h ad ca tc cl tr g))) (va_Qi (fun (r : Int32) (u : Sg) => P r u) (at_X1 dC dI (va_A (XL h ad ca tc cl tr g) sz) h ad ca tc cl tr) (va_A (XL h ad ca tc cl tr g) sz)) 0 0 (va_A (XL h ad ca tc cl tr g) sz) := by
  refine Met.ofW (cc := cX0_readFilling) (maxL := 5) (ret := (some .boolean)) (by decide) rfl ?_
  intro p e s m args below meth c s₁ B0 hml hv
  obtain ⟨hargs, hsz, hP, hK, hD0⟩ := hv
  have hx := B0.exec
  have hb := B0.bytes
  have hr := B0.returns
  have hts := atoms_spec (ws := wsX0_readFilling) B0.pre
  have hown : s.vm.findClass RX0 = some m.cls := findClass_of_methodNamed B0.named
  have hlocks := B0.notSynchronized
  have inw : ∀ w ∈ wsX00, w ∈ wsX0_readFilling := fun w h => List.mem_cons_of_mem _ (List.mem_append_right _ h)
  have f9 : (Cond.fieldLink RX0 9 "FlipHeaps" "thingCount" "I").before args s = true := hts _ (by decide +kernel)
  have f26 : (Cond.fieldLink RX0 26 "FlipHeaps" "digits" "[I").before args s = true := hts _ (by decide +kernel)
  subst hsz
  have hD := hD0.self (sz := s.heap.size)
  generalize hAe : va_A (XL h ad ca tc cl tr g) s.heap.size = A at hD ⊢
  have hA : ∀ q : Nat, s.heap.size ≤ q → A q := fun q h => by rw [← hAe]; exact Or.inr h
  clear hAe hD0
  have hS : va_S A s.heap s.heap [] := va_S.rf
  have lp_18 : ∀ (x1 : Int32) (K51 : Int32 → Sg → Prop) (hK51 : ∀ (x3 : Int32) (g : Sg) (H : Heap) (locs : List Loc) (ls : Array Slot), K51 x3 g → va_P (dC, dI) vwCl (XL h ad ca tc cl tr g) H → va_D A (XL h ad ca tc cl tr g) → va_S A s.heap H locs → lv_has ls 5 [(0, .ref h), (3, .int x3)] → W p l e (headSpec wsX0_readFilling ({ frames := 2, cells := 0, slots := 0, locals := 43 })).room s m args below meth c H locs 0 0 (MQ below (va_Qi (fun (r : Int32) (u : Sg) => P r u) (at_X1 dC dI A h ad ca tc cl tr) A) args s 0 0 A) (F0 m 51 ls [])), ∀ (n : Nat) (x3 : Int32) (x4 : Int32) (g : Sg) (H : Heap) (locs : List Loc) (ls : Array Slot), Lp3 (wX_readFilling_b18 P tc cl tr x1 K51) n x3 x4 g → va_P (dC, dI) vwCl (XL h ad ca tc cl tr g) H → va_D A (XL h ad ca tc cl tr g) → va_S A s.heap H locs → lv_has ls 5 [(0, .ref h), (1, .int x1), (3, .int x3), (4, .int x4)] → W p l e (headSpec wsX0_readFilling ({ frames := 2, cells := 0, slots := 0, locals := 43 })).room s m args below meth c H locs 0 0 (MQ below (va_Qi (fun (r : Int32) (u : Sg) => P r u) (at_X1 dC dI A h ad ca tc cl tr) A) args s 0 0 A) (F0 m 18 ls []) := by
    intro x1 K51 hK51
    intro n
    induction n with
    | zero => intro x3 x4 g H locs ls hw; exact False.elim hw
    | succ n hB =>
      intro x3 x4 g H locs ls hw hP hD hS hl
      replace hw : wX_readFilling_b18 P tc cl tr x1 K51 (Lp3 (wX_readFilling_b18 P tc cl tr x1 K51) n) x3 x4 g := hw
      unfold wX_readFilling_b18 at hw
      refine lv_iload hx hb dX0_readFilling_18 (lv_at hl 3 rfl) ?_
      refine lv_aload_n hx hb dX0_readFilling_20 rfl (lv_at hl 0 rfl) ?_
      refine va_get (D := (dC, dI)) (ci := 0) (C := RX0) (T := TX0) (N := 13) hx hb hts inw hown hK hP 0 rfl rfl 0 (by decide) f9 (fun _ h9 => h9) rfl dX0_readFilling_21 ?_
      refine lv_icmp_ge (tgt := 51) hx hb dX0_readFilling_24 (by decide) (fun hc => ?_) (fun hc => ?_)
      · replace hw := hw.1 hc
        clear hc
        exact hK51 x3 g H locs ls hw hP hD hS (lv_sub hl [0, 2] rfl)
      · replace hw := hw.2 hc
        clear hc
        refine lv_aload_n hx hb dX0_readFilling_27 rfl (lv_at hl 0 rfl) ?_
        refine va_get (D := (dC, dI)) (ci := 0) (C := RX0) (T := TX0) (N := 13) hx hb hts inw hown hK hP 0 rfl rfl 7 (by decide) f26 (fun _ h9 => h9) rfl dX0_readFilling_28 ?_
        refine lv_iload hx hb dX0_readFilling_31 (lv_at hl 3 rfl) ?_
        refine lv_iload_n hx hb dX0_readFilling_33 rfl (lv_at hl 2 rfl) ?_
        refine lv_iload_n hx hb dX0_readFilling_34 rfl (lv_at hl 1 rfl) ?_
        refine lv_iconst (v := (1 : Int32)) hx hb dX0_readFilling_35 (by decide) ?_
        refine lv_iadd hx hb dX0_readFilling_36 ?_
        obtain ⟨hne, hw⟩ := hw
        refine lv_irem hx hb dX0_readFilling_37 hne ?_
        obtain ⟨hin, hw⟩ := hw
        refine va_iast hx hb hK hP hD hS 5 4 rfl rfl hin dX0_readFilling_38 (fun H locs hP hD hS => ?_)
        obtain ⟨g_1, hg⟩ : ∃ z : Sg, z = up2 g 7 (x4).toNatClampNeg (x3 - x3 / (x1 + (1 : Int32)) * (x1 + (1 : Int32))) := ⟨_, rfl⟩
        replace hw := hw g_1 hg
        have hP : va_P (dC, dI) vwCl (XL h ad ca tc cl tr g_1) H := by rw [hg]; exact hP
        have hD : va_D A (XL h ad ca tc cl tr g_1) := by rw [hg]; exact hD
        clear hg
        refine lv_iload_n hx hb dX0_readFilling_39 rfl (lv_at hl 2 rfl) ?_
        refine lv_iload_n hx hb dX0_readFilling_40 rfl (lv_at hl 1 rfl) ?_
        refine lv_iconst (v := (1 : Int32)) hx hb dX0_readFilling_41 (by decide) ?_
        refine lv_iadd hx hb dX0_readFilling_42 ?_
        obtain ⟨hne, hw⟩ := hw
        refine lv_idiv hx hb dX0_readFilling_43 hne ?_
        refine lv_topi (fun x3_2 hv => ?_)
        replace hw := hw x3_2 hv
        clear hv
        refine lv_istore_n (lv' := [(3, .int x3_2), (0, .ref h), (1, .int x1), (4, .int x4)]) hx hb dX0_readFilling_44 rfl hl (by decide) rfl (fun ls hl => ?_)
        refine lv_iinc (v := (x4 + 1)) (lv' := [(4, .int ((x4 + 1))), (3, .int x3_2), (0, .ref h), (1, .int x1)]) hx hb dX0_readFilling_45 hl (k := 3) rfl rfl (by decide) rfl (fun ls hl => ?_)
        refine lv_goto (tgt := 18) hx hb dX0_readFilling_48 (by decide) ?_
        exact hB x3_2 (x4 + 1) g_1 H locs ls hw hP hD hS (lv_sub hl [2, 3, 1, 0] rfl)
  subst hargs
  unfold wX_readFilling at hw
  have hl := lv_entry ([.ref h, .int x1, .int x2]) (n := 5) (Nat.le_of_ble_eq_true rfl)
  rw [lg_entry_eq]
  generalize (lg_sl ([.ref h, .int x1, .int x2]) ++ List.replicate (5 - (lg_sl ([.ref h, .int x1, .int x2])).length) Slot.unset).toArray = ls at hl ⊢
  have hl : lv_has ls 5 [(0, .ref h), (1, .int x1), (2, .int x2)] := hl
  obtain ⟨H, hHe⟩ : ∃ z : Heap, z = s.heap := ⟨_, rfl⟩
  obtain ⟨locs, hLe⟩ : ∃ z : List Loc, z = [] := ⟨_, rfl⟩
  have hS : va_S A s.heap H locs := by rw [hHe, hLe]; exact hS
  have hP : va_P (dC, dI) vwCl (XL h ad ca tc cl tr g) H := by rw [hHe]; exact hP
  have hgo : W p l e (headSpec wsX0_readFilling ({ frames := 2, cells := 0, slots := 0, locals := 43 })).room s m ([.ref h, .int x1, .int x2] : List Value).toArray below meth c H locs 0 0 (MQ below (va_Qi (fun (r : Int32) (u : Sg) => P r u) (at_X1 dC dI A h ad ca tc cl tr) A) ([.ref h, .int x1, .int x2] : List Value).toArray s 0 0 A) (F0 m 0 ls []) := by
    clear hHe hLe
    refine lv_iload_n hx hb dX0_readFilling_0 rfl (lv_at hl 1 rfl) ?_
    refine vp_callSi (W.runS (As := [.int x1]) (rest := []) ⟨hx, hb, hml, hown, hts⟩ (cX_isHeight l x1 _ hw) (va_cwS 1 hts gX0_readFilling_X0_isHeight rfl rfl rfl (by decide +kernel) ⟨Nat.le_of_ble_eq_true rfl, Nat.le_of_ble_eq_true rfl⟩) ⟨fun a U g mk q => q, fun U hU hW => ⟨rfl, trivial⟩⟩ rfl rfl hl.1 rfl (lv_room (Nat.le_of_ble_eq_true rfl)) dX0_readFilling_1 ⟨Nat.zero_le _, Nat.zero_le _⟩) (fun r_3 hw => ?_)
    try dsimp only at hw
    refine lv_if_eq (tgt := 11) hx hb dX0_readFilling_4 (by decide) (fun hc => ?_) (fun hc => ?_)
    · replace hw := hw.1 hc
      clear hc
      refine lv_iconst (v := (0 : Int32)) hx hb dX0_readFilling_11 (by decide) ?_
      exact W.zret (v := (0 : Int32)) hx hb hr rfl (fun t ht hW => ⟨⟨(0 : Int32), g, rfl, hw, by rw [ht]; exact hP, va_K.moved hW.alike hK, hD⟩, hS.F ht⟩) hS.2.2 dX0_readFilling_12
    · replace hw := hw.2 hc
      clear hc
      refine lv_iload_n hx hb dX0_readFilling_7 rfl (lv_at hl 2 rfl) ?_
      refine lv_if_ge (tgt := 13) hx hb dX0_readFilling_8 (by decide) (fun hc => ?_) (fun hc => ?_)
      · replace hw := hw.1 hc
        clear hc
        refine lv_iload_n hx hb dX0_readFilling_13 rfl (lv_at hl 2 rfl) ?_
        refine lv_istore_n (lv' := [(3, .int x2), (0, .ref h), (1, .int x1), (2, .int x2)]) hx hb dX0_readFilling_14 rfl hl (by decide) rfl (fun ls hl => ?_)
        refine lv_iconst (v := (0 : Int32)) hx hb dX0_readFilling_15 (by decide) ?_
        refine lv_istore (lv' := [(4, .int (0 : Int32)), (3, .int x2), (0, .ref h), (1, .int x1), (2, .int x2)]) hx hb dX0_readFilling_16 hl (by decide) rfl (fun ls hl => ?_)
        obtain ⟨n_7, hw⟩ := hw
        refine lp_18 x1 _ ?_ n_7 x2 (0 : Int32) g H locs ls hw hP hD hS (lv_sub hl [2, 3, 1, 0] rfl)
        · intro x3_4 g_5 H locs ls hw hP hD hS hl
          try dsimp only at hw
          refine lv_iload_n hx hb dX0_readFilling_51 rfl (lv_at hl 1 rfl) ?_
          refine lv_if_ne (tgt := 66) hx hb dX0_readFilling_52 (by decide) (fun hc => ?_) (fun hc => ?_)
          · replace hw := hw.1 hc
            clear hc
            refine lv_iconst (v := (0 : Int32)) hx hb dX0_readFilling_66 (by decide) ?_
            exact W.zret (v := (0 : Int32)) hx hb hr rfl (fun t ht hW => ⟨⟨(0 : Int32), g_5, rfl, hw, by rw [ht]; exact hP, va_K.moved hW.alike hK, hD⟩, hS.F ht⟩) hS.2.2 dX0_readFilling_67
          · replace hw := hw.2 hc
            clear hc
            refine lv_aload_n hx hb dX0_readFilling_55 rfl (lv_at hl 0 rfl) ?_
            refine vp_callSi (W.runV (As := []) (rest := []) ⟨hx, hb, hml, hown, hts⟩ (cX_digitsFallUpwards l dC dI h ad ca tc cl tr g_5 _ hw) (cwV 0 hts gX0_readFilling_X0_digitsFallUpwards rfl rfl rfl (by decide +kernel) ⟨Nat.le_of_ble_eq_true rfl, Nat.le_of_ble_eq_true rfl⟩) ⟨fun a U g mk q => by obtain ⟨q0, qP, qK⟩ := q; exact ⟨q0, qP, va_K.moved (u := U) (U := U.calling g mk a) (Vm.Alike.refl U.vm) qK⟩, va_recv hK hP (ci := 0) (q0 := 0) rfl rfl, fun U hU hW => ⟨rfl, by rw [hU]; exact hP, va_K.moved hW.alike hK⟩⟩ rfl rfl hl.1 rfl (lv_room (Nat.le_of_ble_eq_true rfl)) dX0_readFilling_56 ⟨Nat.zero_le _, Nat.zero_le _⟩) (fun r_6 hw => ?_)
            try dsimp only at hw
            refine lv_if_eq (tgt := 66) hx hb dX0_readFilling_59 (by decide) (fun hc => ?_) (fun hc => ?_)
            · replace hw := hw.1 hc
              clear hc
              refine lv_iconst (v := (0 : Int32)) hx hb dX0_readFilling_66 (by decide) ?_
              exact W.zret (v := (0 : Int32)) hx hb hr rfl (fun t ht hW => ⟨⟨(0 : Int32), g_5, rfl, hw, by rw [ht]; exact hP, va_K.moved hW.alike hK, hD⟩, hS.F ht⟩) hS.2.2 dX0_readFilling_67
            · replace hw := hw.2 hc
              clear hc
              refine lv_iconst (v := (1 : Int32)) hx hb dX0_readFilling_62 (by decide) ?_
              refine lv_goto (tgt := 67) hx hb dX0_readFilling_63 (by decide) ?_
              exact W.zret (v := (1 : Int32)) hx hb hr rfl (fun t ht hW => ⟨⟨(1 : Int32), g_5, rfl, hw, by rw [ht]; exact hP, va_K.moved hW.alike hK, hD⟩, hS.F ht⟩) hS.2.2 dX0_readFilling_67
      · replace hw := hw.2 hc
        clear hc
        refine lv_iconst (v := (0 : Int32)) hx hb dX0_readFilling_11 (by decide) ?_
        exact W.zret (v := (0 : Int32)) hx hb hr rfl (fun t ht hW => ⟨⟨(0 : Int32), g, rfl, hw, by rw [ht]; exact hP, va_K.moved hW.alike hK, hD⟩, hS.F ht⟩) hS.2.2 dX0_readFilling_12
  rw [hHe, hLe] at hgo
  exact hgo
-- X0_flipDigit
set_option maxHeartbeats 4000000 in
set_option maxRecDepth 100000 in
theorem cX_flipDigit (l : Launch) (dC : Nat → ClassId) (dI : Nat → Nat → Nat) (h : Nat) (ad : Nat → Nat) (ca : Nat → ClassId) (sz : Nat) (tc cl : Int32) (tr : Int64) (g : Sg) (x1 : Int32) (x2 : Int32) (P : Sg → Prop) (hw : wX_flipDigit P tc cl tr g x1 x2) : Met l yX0_flipDigit wsX0_flipDigit ({ frames := 1, cells := 0, slots := 0, locals := 21 }) (va_Pc [.ref h, .int x1, .int x2] (fun U => U.heap.size = sz ∧ va_P (dC, dI) vwCl (XL h ad ca tc cl tr g) U.heap ∧ va_K (dC, dI) vwCl (XT ca) U ∧ va_D (fun _ => True) (XL h ad ca tc cl tr g))) (va_Qv (fun (u : Sg) => P u) (at_X1 dC dI (va_A (XL h ad ca tc cl tr g) sz) h ad ca tc cl tr) (va_A (XL h ad ca tc cl tr g) sz)) 0 0 (va_A (XL h ad ca tc cl tr g) sz) := by
  refine Met.ofW (cc := cX0_flipDigit) (maxL := 6) (ret := none) (by decide) rfl ?_
  intro p e s m args below meth c s₁ B0 hml hv
  obtain ⟨hargs, hsz, hP, hK, hD0⟩ := hv
  have hx := B0.exec
  have hb := B0.bytes
  have hr := B0.returns
  have hts := atoms_spec (ws := wsX0_flipDigit) B0.pre
  have hown : s.vm.findClass RX0 = some m.cls := findClass_of_methodNamed B0.named
  have hlocks := B0.notSynchronized
  have inw : ∀ w ∈ wsX00, w ∈ wsX0_flipDigit := fun w h => List.mem_cons_of_mem _ (List.mem_append_right _ h)
  have f9 : (Cond.fieldLink RX0 9 "FlipHeaps" "thingCount" "I").before args s = true := hts _ (by decide +kernel)
  have f13 : (Cond.fieldLink RX0 13 "FlipHeaps" "under" "[I").before args s = true := hts _ (by decide +kernel)
  have f17 : (Cond.fieldLink RX0 17 "FlipHeaps" "over" "[I").before args s = true := hts _ (by decide +kernel)
  have f26 : (Cond.fieldLink RX0 26 "FlipHeaps" "digits" "[I").before args s = true := hts _ (by decide +kernel)
  have ml160 : (Cond.methodLink RX0 160 Lib.Math.max.name).before args s = true := hts _ (by decide +kernel)
  have msmax : (Cond.static Lib.Math.max.name).before args s = true := hts _ (by decide +kernel)
  have mcmax : (Cond.code Lib.Math.max.name Lib.Math.max.code 2 (some .int)).before args s = true := hts _ (by decide +kernel)
  have ml173 : (Cond.methodLink RX0 173 Lib.Math.min.name).before args s = true := hts _ (by decide +kernel)
  have msmin : (Cond.static Lib.Math.min.name).before args s = true := hts _ (by decide +kernel)
  have mcmin : (Cond.code Lib.Math.min.name Lib.Math.min.code 2 (some .int)).before args s = true := hts _ (by decide +kernel)
  have mini : (Cond.initialized "java/lang/Math").before args s = true := hts _ (by decide +kernel)
  subst hsz
  have hD := hD0.self (sz := s.heap.size)
  generalize hAe : va_A (XL h ad ca tc cl tr g) s.heap.size = A at hD ⊢
  have hA : ∀ q : Nat, s.heap.size ≤ q → A q := fun q h => by rw [← hAe]; exact Or.inr h
  clear hAe hD0
  have hS : va_S A s.heap s.heap [] := va_S.rf
  have jn_43 : ∀ (B : Int32 → Int32 → Int32 → Sg → Prop) (K77 : Int32 → Int32 → Sg → Prop) (x2 : Int32) (x3 : Int32) (x4 : Int32) (x5 : Int32) (g : Sg) (hB : ∀ (x3 : Int32) (x4 : Int32) (x5 : Int32) (g : Sg) (H : Heap) (locs : List Loc) (ls : Array Slot), B x3 x4 x5 g → va_P (dC, dI) vwCl (XL h ad ca tc cl tr g) H → va_D A (XL h ad ca tc cl tr g) → va_S A s.heap H locs → lv_has ls 6 [(0, .ref h), (2, .int x2), (3, .int x3), (4, .int x4), (5, .int x5)] → W p l e (headSpec wsX0_flipDigit ({ frames := 1, cells := 0, slots := 0, locals := 21 })).room s m args below meth c H locs 0 0 (MQ below (va_Qv (fun (u : Sg) => P u) (at_X1 dC dI A h ad ca tc cl tr) A) args s 0 0 A) (F0 m 8 ls [])) (hK77 : ∀ (x3 : Int32) (x4 : Int32) (g : Sg) (H : Heap) (locs : List Loc) (ls : Array Slot), K77 x3 x4 g → va_P (dC, dI) vwCl (XL h ad ca tc cl tr g) H → va_D A (XL h ad ca tc cl tr g) → va_S A s.heap H locs → lv_has ls 6 [(0, .ref h), (2, .int x2), (3, .int x3), (4, .int x4)] → W p l e (headSpec wsX0_flipDigit ({ frames := 1, cells := 0, slots := 0, locals := 21 })).room s m args below meth c H locs 0 0 (MQ below (va_Qv (fun (u : Sg) => P u) (at_X1 dC dI A h ad ca tc cl tr) A) args s 0 0 A) (F0 m 77 ls [])) (H : Heap) (locs : List Loc) (ls : Array Slot), wX_flipDigit_j43 P tc cl tr B K77 x2 x3 x4 x5 g → va_P (dC, dI) vwCl (XL h ad ca tc cl tr g) H → va_D A (XL h ad ca tc cl tr g) → va_S A s.heap H locs → lv_has ls 6 [(0, .ref h), (2, .int x2), (3, .int x3), (4, .int x4), (5, .int x5)] → W p l e (headSpec wsX0_flipDigit ({ frames := 1, cells := 0, slots := 0, locals := 21 })).room s m args below meth c H locs 0 0 (MQ below (va_Qv (fun (u : Sg) => P u) (at_X1 dC dI A h ad ca tc cl tr) A) args s 0 0 A) (F0 m 43 ls []) := by
    intro B K77 x2 x3 x4 x5 g hB hK77 H locs ls hw hP hD hS hl
    unfold wX_flipDigit_j43 at hw
    refine lv_aload_n hx hb dX0_flipDigit_43 rfl (lv_at hl 0 rfl) ?_
    refine va_get (D := (dC, dI)) (ci := 0) (C := RX0) (T := TX0) (N := 13) hx hb hts inw hown hK hP 0 rfl rfl 4 (by decide) f17 (fun _ h9 => h9) rfl dX0_flipDigit_44 ?_
    refine lv_iload_n hx hb dX0_flipDigit_47 rfl (lv_at hl 1 rfl) ?_
    obtain ⟨hin, hw⟩ := hw
    refine va_iald hx hb hK hP 2 1 rfl rfl hin dX0_flipDigit_48 ?_
    refine lv_iload hx hb dX0_flipDigit_49 (lv_at hl 4 rfl) ?_
    refine vp_callSi (W.runS (As := [.int ((g 4 (x2).toNatClampNeg)), .int x5]) (rest := []) ⟨hx, hb, hml, hown, hts⟩ (cX_has l (g 4 (x2).toNatClampNeg) x5 _ hw) (va_cwS 2 hts gX0_flipDigit_X0_has rfl rfl rfl (by decide +kernel) ⟨Nat.le_of_ble_eq_true rfl, Nat.le_of_ble_eq_true rfl⟩) ⟨fun a U g mk q => q, fun U hU hW => ⟨rfl, trivial⟩⟩ rfl rfl hl.1 rfl (lv_room (Nat.le_of_ble_eq_true rfl)) dX0_flipDigit_51 ⟨Nat.zero_le _, Nat.zero_le _⟩) (fun r_1 hw => ?_)
    try dsimp only at hw
    refine lv_if_eq (tgt := 71) hx hb dX0_flipDigit_54 (by decide) (fun hc => ?_) (fun hc => ?_)
    · replace hw := hw.1 hc
      clear hc
      refine lv_iinc (v := (x5 + 1)) (lv' := [(5, .int ((x5 + 1))), (0, .ref h), (2, .int x2), (3, .int x3), (4, .int x4)]) hx hb dX0_flipDigit_71 hl (k := 4) rfl rfl (by decide) rfl (fun ls hl => ?_)
      refine lv_goto (tgt := 8) hx hb dX0_flipDigit_74 (by decide) ?_
      exact hB x3 x4 (x5 + 1) g H locs ls hw hP hD hS (lv_sub hl [1, 2, 3, 4, 0] rfl)
    · replace hw := hw.2 hc
      clear hc
      refine lv_iload hx hb dX0_flipDigit_57 (lv_at hl 3 rfl) ?_
      refine lv_aload_n hx hb dX0_flipDigit_59 rfl (lv_at hl 0 rfl) ?_
      refine va_get (D := (dC, dI)) (ci := 0) (C := RX0) (T := TX0) (N := 13) hx hb hts inw hown hK hP 0 rfl rfl 7 (by decide) f26 (fun _ h9 => h9) rfl dX0_flipDigit_60 ?_
      refine lv_iload hx hb dX0_flipDigit_63 (lv_at hl 4 rfl) ?_
      obtain ⟨hin, hw⟩ := hw
      refine va_iald hx hb hK hP 5 4 rfl rfl hin dX0_flipDigit_65 ?_
      refine va_mmax hx hb (hml.trans hl.1.symm) hown ml160 msmax mini mcmax (Nat.le_of_ble_eq_true rfl) (Nat.le_of_ble_eq_true rfl) (Nat.zero_le _) (Nat.zero_le _) dX0_flipDigit_66 ?_
      refine lv_topi (fun x4_2 hv => ?_)
      replace hw := hw x4_2 hv
      clear hv
      refine lv_istore (lv' := [(4, .int x4_2), (0, .ref h), (2, .int x2), (3, .int x3), (5, .int x5)]) hx hb dX0_flipDigit_69 hl (by decide) rfl (fun ls hl => ?_)
      refine lv_iinc (v := (x5 + 1)) (lv' := [(5, .int ((x5 + 1))), (4, .int x4_2), (0, .ref h), (2, .int x2), (3, .int x3)]) hx hb dX0_flipDigit_71 hl (k := 4) rfl rfl (by decide) rfl (fun ls hl => ?_)
      refine lv_goto (tgt := 8) hx hb dX0_flipDigit_74 (by decide) ?_
      exact hB x3 x4_2 (x5 + 1) g H locs ls hw hP hD hS (lv_sub hl [2, 3, 4, 1, 0] rfl)
  have lp_8 : ∀ (x2 : Int32) (K77 : Int32 → Int32 → Sg → Prop) (hK77 : ∀ (x3 : Int32) (x4 : Int32) (g : Sg) (H : Heap) (locs : List Loc) (ls : Array Slot), K77 x3 x4 g → va_P (dC, dI) vwCl (XL h ad ca tc cl tr g) H → va_D A (XL h ad ca tc cl tr g) → va_S A s.heap H locs → lv_has ls 6 [(0, .ref h), (2, .int x2), (3, .int x3), (4, .int x4)] → W p l e (headSpec wsX0_flipDigit ({ frames := 1, cells := 0, slots := 0, locals := 21 })).room s m args below meth c H locs 0 0 (MQ below (va_Qv (fun (u : Sg) => P u) (at_X1 dC dI A h ad ca tc cl tr) A) args s 0 0 A) (F0 m 77 ls [])), ∀ (n : Nat) (x3 : Int32) (x4 : Int32) (x5 : Int32) (g : Sg) (H : Heap) (locs : List Loc) (ls : Array Slot), Lp4 (wX_flipDigit_b8 P tc cl tr x2 K77) n x3 x4 x5 g → va_P (dC, dI) vwCl (XL h ad ca tc cl tr g) H → va_D A (XL h ad ca tc cl tr g) → va_S A s.heap H locs → lv_has ls 6 [(0, .ref h), (2, .int x2), (3, .int x3), (4, .int x4), (5, .int x5)] → W p l e (headSpec wsX0_flipDigit ({ frames := 1, cells := 0, slots := 0, locals := 21 })).room s m args below meth c H locs 0 0 (MQ below (va_Qv (fun (u : Sg) => P u) (at_X1 dC dI A h ad ca tc cl tr) A) args s 0 0 A) (F0 m 8 ls []) := by
    intro x2 K77 hK77
    intro n
    induction n with
    | zero => intro x3 x4 x5 g H locs ls hw; exact False.elim hw
    | succ n hB =>
      intro x3 x4 x5 g H locs ls hw hP hD hS hl
      replace hw : wX_flipDigit_b8 P tc cl tr x2 K77 (Lp4 (wX_flipDigit_b8 P tc cl tr x2 K77) n) x3 x4 x5 g := hw
      unfold wX_flipDigit_b8 at hw
      refine lv_iload hx hb dX0_flipDigit_8 (lv_at hl 4 rfl) ?_
      refine lv_aload_n hx hb dX0_flipDigit_10 rfl (lv_at hl 0 rfl) ?_
      refine va_get (D := (dC, dI)) (ci := 0) (C := RX0) (T := TX0) (N := 13) hx hb hts inw hown hK hP 0 rfl rfl 0 (by decide) f9 (fun _ h9 => h9) rfl dX0_flipDigit_11 ?_
      refine lv_icmp_ge (tgt := 77) hx hb dX0_flipDigit_14 (by decide) (fun hc => ?_) (fun hc => ?_)
      · replace hw := hw.1 hc
        clear hc
        exact hK77 x3 x4 g H locs ls hw hP hD hS (lv_sub hl [0, 1, 2, 3] rfl)
      · replace hw := hw.2 hc
        clear hc
        refine lv_aload_n hx hb dX0_flipDigit_17 rfl (lv_at hl 0 rfl) ?_
        refine va_get (D := (dC, dI)) (ci := 0) (C := RX0) (T := TX0) (N := 13) hx hb hts inw hown hK hP 0 rfl rfl 3 (by decide) f13 (fun _ h9 => h9) rfl dX0_flipDigit_18 ?_
        refine lv_iload_n hx hb dX0_flipDigit_21 rfl (lv_at hl 1 rfl) ?_
        obtain ⟨hin, hw⟩ := hw
        refine va_iald hx hb hK hP 1 0 rfl rfl hin dX0_flipDigit_22 ?_
        refine lv_iload hx hb dX0_flipDigit_23 (lv_at hl 4 rfl) ?_
        refine vp_callSi (W.runS (As := [.int ((g 3 (x2).toNatClampNeg)), .int x5]) (rest := []) ⟨hx, hb, hml, hown, hts⟩ (cX_has l (g 3 (x2).toNatClampNeg) x5 _ hw) (va_cwS 2 hts gX0_flipDigit_X0_has rfl rfl rfl (by decide +kernel) ⟨Nat.le_of_ble_eq_true rfl, Nat.le_of_ble_eq_true rfl⟩) ⟨fun a U g mk q => q, fun U hU hW => ⟨rfl, trivial⟩⟩ rfl rfl hl.1 rfl (lv_room (Nat.le_of_ble_eq_true rfl)) dX0_flipDigit_25 ⟨Nat.zero_le _, Nat.zero_le _⟩) (fun r_3 hw => ?_)
        try dsimp only at hw
        refine lv_if_eq (tgt := 43) hx hb dX0_flipDigit_28 (by decide) (fun hc => ?_) (fun hc => ?_)
        · replace hw := hw.1 hc
          clear hc
          exact jn_43 _ _ x2 x3 x4 x5 g hB hK77 H locs ls hw hP hD hS (lv_sub hl [0, 1, 2, 3, 4] rfl)
        · replace hw := hw.2 hc
          clear hc
          refine lv_iload_n hx hb dX0_flipDigit_31 rfl (lv_at hl 2 rfl) ?_
          refine lv_aload_n hx hb dX0_flipDigit_32 rfl (lv_at hl 0 rfl) ?_
          refine va_get (D := (dC, dI)) (ci := 0) (C := RX0) (T := TX0) (N := 13) hx hb hts inw hown hK hP 0 rfl rfl 7 (by decide) f26 (fun _ h9 => h9) rfl dX0_flipDigit_33 ?_
          refine lv_iload hx hb dX0_flipDigit_36 (lv_at hl 4 rfl) ?_
          obtain ⟨hin, hw⟩ := hw
          refine va_iald hx hb hK hP 5 4 rfl rfl hin dX0_flipDigit_38 ?_
          refine va_mmin hx hb (hml.trans hl.1.symm) hown ml173 msmin mini mcmin (Nat.le_of_ble_eq_true rfl) (Nat.le_of_ble_eq_true rfl) (Nat.zero_le _) (Nat.zero_le _) dX0_flipDigit_39 ?_
          refine lv_topi (fun x3_4 hv => ?_)
          replace hw := hw x3_4 hv
          clear hv
          refine lv_istore_n (lv' := [(3, .int x3_4), (0, .ref h), (2, .int x2), (4, .int x4), (5, .int x5)]) hx hb dX0_flipDigit_42 rfl hl (by decide) rfl (fun ls hl => ?_)
          exact jn_43 _ _ x2 x3_4 x4 x5 g hB hK77 H locs ls hw hP hD hS (lv_sub hl [1, 2, 0, 3, 4] rfl)
  subst hargs
  unfold wX_flipDigit at hw
  have hl := lv_entry ([.ref h, .int x1, .int x2]) (n := 6) (Nat.le_of_ble_eq_true rfl)
  rw [lg_entry_eq]
  generalize (lg_sl ([.ref h, .int x1, .int x2]) ++ List.replicate (6 - (lg_sl ([.ref h, .int x1, .int x2])).length) Slot.unset).toArray = ls at hl ⊢
  have hl : lv_has ls 6 [(0, .ref h), (1, .int x1), (2, .int x2)] := hl
  obtain ⟨H, hHe⟩ : ∃ z : Heap, z = s.heap := ⟨_, rfl⟩
  obtain ⟨locs, hLe⟩ : ∃ z : List Loc, z = [] := ⟨_, rfl⟩
  have hS : va_S A s.heap H locs := by rw [hHe, hLe]; exact hS
  have hP : va_P (dC, dI) vwCl (XL h ad ca tc cl tr g) H := by rw [hHe]; exact hP
  have hgo : W p l e (headSpec wsX0_flipDigit ({ frames := 1, cells := 0, slots := 0, locals := 21 })).room s m ([.ref h, .int x1, .int x2] : List Value).toArray below meth c H locs 0 0 (MQ below (va_Qv (fun (u : Sg) => P u) (at_X1 dC dI A h ad ca tc cl tr) A) ([.ref h, .int x1, .int x2] : List Value).toArray s 0 0 A) (F0 m 0 ls []) := by
    clear hHe hLe
    refine lv_iload_n hx hb dX0_flipDigit_0 rfl (lv_at hl 1 rfl) ?_
    refine lv_istore_n (lv' := [(3, .int x1), (0, .ref h), (1, .int x1), (2, .int x2)]) hx hb dX0_flipDigit_1 rfl hl (by decide) rfl (fun ls hl => ?_)
    refine lv_iconst (v := (0 : Int32)) hx hb dX0_flipDigit_2 (by decide) ?_
    refine lv_istore (lv' := [(4, .int (0 : Int32)), (3, .int x1), (0, .ref h), (1, .int x1), (2, .int x2)]) hx hb dX0_flipDigit_3 hl (by decide) rfl (fun ls hl => ?_)
    refine lv_iconst (v := (0 : Int32)) hx hb dX0_flipDigit_5 (by decide) ?_
    refine lv_istore (lv' := [(5, .int (0 : Int32)), (4, .int (0 : Int32)), (3, .int x1), (0, .ref h), (1, .int x1), (2, .int x2)]) hx hb dX0_flipDigit_6 hl (by decide) rfl (fun ls hl => ?_)
    obtain ⟨n_9, hw⟩ := hw
    refine lp_8 x2 _ ?_ n_9 x1 (0 : Int32) (0 : Int32) g H locs ls hw hP hD hS (lv_sub hl [3, 5, 2, 1, 0] rfl)
    · intro x3_5 x4_6 g_7 H locs ls hw hP hD hS hl
      try dsimp only at hw
      refine lv_aload_n hx hb dX0_flipDigit_77 rfl (lv_at hl 0 rfl) ?_
      refine va_get (D := (dC, dI)) (ci := 0) (C := RX0) (T := TX0) (N := 13) hx hb hts inw hown hK hP 0 rfl rfl 7 (by decide) f26 (fun _ h9 => h9) rfl dX0_flipDigit_78 ?_
      refine lv_iload_n hx hb dX0_flipDigit_81 rfl (lv_at hl 1 rfl) ?_
      refine lv_iload_n hx hb dX0_flipDigit_82 rfl (lv_at hl 2 rfl) ?_
      refine lv_iload hx hb dX0_flipDigit_83 (lv_at hl 3 rfl) ?_
      refine lv_iadd hx hb dX0_flipDigit_85 ?_
      refine lv_aload_n hx hb dX0_flipDigit_86 rfl (lv_at hl 0 rfl) ?_
      refine va_get (D := (dC, dI)) (ci := 0) (C := RX0) (T := TX0) (N := 13) hx hb hts inw hown hK hP 0 rfl rfl 7 (by decide) f26 (fun _ h9 => h9) rfl dX0_flipDigit_87 ?_
      refine lv_iload_n hx hb dX0_flipDigit_90 rfl (lv_at hl 1 rfl) ?_
      obtain ⟨hin, hw⟩ := hw
      refine va_iald hx hb hK hP 5 4 rfl rfl hin dX0_flipDigit_91 ?_
      refine lv_isub hx hb dX0_flipDigit_92 ?_
      obtain ⟨hin, hw⟩ := hw
      refine va_iast hx hb hK hP hD hS 5 4 rfl rfl hin dX0_flipDigit_93 (fun H locs hP hD hS => ?_)
      obtain ⟨g_8, hg⟩ : ∃ z : Sg, z = up2 g_7 7 (x2).toNatClampNeg ((x3_5 + x4_6) - (g_7 7 (x2).toNatClampNeg)) := ⟨_, rfl⟩
      replace hw := hw g_8 hg
      have hP : va_P (dC, dI) vwCl (XL h ad ca tc cl tr g_8) H := by rw [hg]; exact hP
      have hD : va_D A (XL h ad ca tc cl tr g_8) := by rw [hg]; exact hD
      clear hg
      exact W.vret hx hb hr (fun t ht hW => ⟨⟨g_8, rfl, hw, by rw [ht]; exact hP, va_K.moved hW.alike hK, hD⟩, hS.F ht⟩) hS.2.2 dX0_flipDigit_94
  rw [hHe, hLe] at hgo
  exact hgo
-- X0_numberOfDigits
set_option maxHeartbeats 4000000 in
set_option maxRecDepth 100000 in
theorem cX_numberOfDigits (l : Launch) (dC : Nat → ClassId) (dI : Nat → Nat → Nat) (h : Nat) (ad : Nat → Nat) (ca : Nat → ClassId) (tc cl : Int32) (tr : Int64) (g : Sg) (x1 : Int32) (P : Int32 → Prop) (hw : wX_numberOfDigits P tc cl tr g x1) : Met l yX0_numberOfDigits wsX0_numberOfDigits ({ frames := 0, cells := 0, slots := 0, locals := 0 }) (va_Pc [.ref h, .int x1] (fun U => va_P (dC, dI) vwCl (XL h ad ca tc cl tr g) U.heap ∧ va_K (dC, dI) vwCl (XT ca) U)) (vp_Si P) 0 0 (fun _ => False) := by
  refine Met.ofW (cc := cX0_numberOfDigits) (maxL := 4) (ret := (some .int)) (by decide) rfl ?_
  intro p e s m args below meth c s₁ B0 hml hv
  obtain ⟨hargs, hP, hK⟩ := hv
  have hx := B0.exec
  have hb := B0.bytes
  have hr := B0.returns
  have hts := atoms_spec (ws := wsX0_numberOfDigits) B0.pre
  have hown : s.vm.findClass RX0 = some m.cls := findClass_of_methodNamed B0.named
  have hlocks := B0.notSynchronized
  have inw : ∀ w ∈ wsX00, w ∈ wsX0_numberOfDigits := fun w h => List.mem_cons_of_mem _ (List.mem_append_right _ h)
  have f9 : (Cond.fieldLink RX0 9 "FlipHeaps" "thingCount" "I").before args s = true := hts _ (by decide +kernel)
  have f26 : (Cond.fieldLink RX0 26 "FlipHeaps" "digits" "[I").before args s = true := hts _ (by decide +kernel)
  have lp_9 : ∀ (x1 : Int32), ∀ (n : Nat) (x2 : Int32) (x3 : Int32) (ls : Array Slot), Lp2 (wX_numberOfDigits_b9 P tc cl tr g x1) n x2 x3 → lv_has ls 4 [(0, .ref h), (1, .int x1), (2, .int x2), (3, .int x3)] → W p l e (headSpec wsX0_numberOfDigits ({ frames := 0, cells := 0, slots := 0, locals := 0 })).room s m args below meth c s.heap [] 0 0 (MQ below (vp_Si P) args s 0 0 (fun _ => False)) (F0 m 9 ls []) := by
    intro x1
    intro n
    induction n with
    | zero => intro x2 x3 ls hw; exact False.elim hw
    | succ n hB =>
      intro x2 x3 ls hw hl
      replace hw : wX_numberOfDigits_b9 P tc cl tr g x1 (Lp2 (wX_numberOfDigits_b9 P tc cl tr g x1) n) x2 x3 := hw
      unfold wX_numberOfDigits_b9 at hw
      refine lv_iload_n hx hb dX0_numberOfDigits_9 rfl (lv_at hl 3 rfl) ?_
      refine lv_if_lt (tgt := 32) hx hb dX0_numberOfDigits_10 (by decide) (fun hc => ?_) (fun hc => ?_)
      · replace hw := hw.1 hc
        clear hc
        refine lv_iload_n hx hb dX0_numberOfDigits_32 rfl (lv_at hl 2 rfl) ?_
        exact W.iret (v := x2) hx hb hr (fun t ht hW => ⟨_, rfl, hw, ht⟩) (fun q h => absurd h List.not_mem_nil) dX0_numberOfDigits_33
      · replace hw := hw.2 hc
        clear hc
        refine lv_iload_n hx hb dX0_numberOfDigits_13 rfl (lv_at hl 2 rfl) ?_
        refine lv_iload_n hx hb dX0_numberOfDigits_14 rfl (lv_at hl 1 rfl) ?_
        refine lv_iconst (v := (1 : Int32)) hx hb dX0_numberOfDigits_15 (by decide) ?_
        refine lv_iadd hx hb dX0_numberOfDigits_16 ?_
        refine lv_imul hx hb dX0_numberOfDigits_17 ?_
        refine lv_aload_n hx hb dX0_numberOfDigits_18 rfl (lv_at hl 0 rfl) ?_
        refine va_get (D := (dC, dI)) (ci := 0) (C := RX0) (T := TX0) (N := 13) hx hb hts inw hown hK hP 0 rfl rfl 7 (by decide) f26 (fun _ h9 => h9) rfl dX0_numberOfDigits_19 ?_
        refine lv_iload_n hx hb dX0_numberOfDigits_22 rfl (lv_at hl 3 rfl) ?_
        obtain ⟨hin, hw⟩ := hw
        refine va_iald hx hb hK hP 5 4 rfl rfl hin dX0_numberOfDigits_23 ?_
        refine lv_iadd hx hb dX0_numberOfDigits_24 ?_
        refine lv_topi (fun x2_1 hv => ?_)
        replace hw := hw x2_1 hv
        clear hv
        refine lv_istore_n (lv' := [(2, .int x2_1), (0, .ref h), (1, .int x1), (3, .int x3)]) hx hb dX0_numberOfDigits_25 rfl hl (by decide) rfl (fun ls hl => ?_)
        refine lv_iinc (v := (x3 + (-1))) (lv' := [(3, .int ((x3 + (-1)))), (2, .int x2_1), (0, .ref h), (1, .int x1)]) hx hb dX0_numberOfDigits_26 hl (k := 3) rfl rfl (by decide) rfl (fun ls hl => ?_)
        refine lv_goto (tgt := 9) hx hb dX0_numberOfDigits_29 (by decide) ?_
        exact hB x2_1 (x3 + (-1)) ls hw (lv_sub hl [2, 3, 1, 0] rfl)
  subst hargs
  unfold wX_numberOfDigits at hw
  have hl := lv_entry ([.ref h, .int x1]) (n := 4) (Nat.le_of_ble_eq_true rfl)
  rw [lg_entry_eq]
  generalize (lg_sl ([.ref h, .int x1]) ++ List.replicate (4 - (lg_sl ([.ref h, .int x1])).length) Slot.unset).toArray = ls at hl ⊢
  have hl : lv_has ls 4 [(0, .ref h), (1, .int x1)] := hl
  refine lv_iconst (v := (0 : Int32)) hx hb dX0_numberOfDigits_0 (by decide) ?_
  refine lv_istore_n (lv' := [(2, .int (0 : Int32)), (0, .ref h), (1, .int x1)]) hx hb dX0_numberOfDigits_1 rfl hl (by decide) rfl (fun ls hl => ?_)
  refine lv_aload_n hx hb dX0_numberOfDigits_2 rfl (lv_at hl 1 rfl) ?_
  refine va_get (D := (dC, dI)) (ci := 0) (C := RX0) (T := TX0) (N := 13) hx hb hts inw hown hK hP 0 rfl rfl 0 (by decide) f9 (fun _ h9 => h9) rfl dX0_numberOfDigits_3 ?_
  refine lv_iconst (v := (1 : Int32)) hx hb dX0_numberOfDigits_6 (by decide) ?_
  refine lv_isub hx hb dX0_numberOfDigits_7 ?_
  refine lv_topi (fun x3_2 hv => ?_)
  replace hw := hw x3_2 hv
  clear hv
  refine lv_istore_n (lv' := [(3, .int x3_2), (2, .int (0 : Int32)), (0, .ref h), (1, .int x1)]) hx hb dX0_numberOfDigits_8 rfl hl (by decide) rfl (fun ls hl => ?_)
  obtain ⟨n_3, hw⟩ := hw
  exact lp_9 x1 n_3 (0 : Int32) x3_2 ls hw (lv_sub hl [2, 3, 1, 0] rfl)
-- X0_bend
set_option maxHeartbeats 4000000 in
set_option maxRecDepth 100000 in
theorem cX_bend (l : Launch) (dC : Nat → ClassId) (dI : Nat → Nat → Nat) (h : Nat) (ad : Nat → Nat) (ca : Nat → ClassId) (sz : Nat) (tc cl : Int32) (tr : Int64) (g : Sg) (x1 : Int32) (x2 : Int32) (x3 : Int32) (P : Int32 → Sg → Prop) (hw : wX_bend P tc cl tr g x1 x2 x3) : Met l yX0_bend wsX0_bend ({ frames := 3, cells := 0, slots := 0, locals := 67 }) (va_Pc [.ref h, .int x1, .int x2, .int x3] (fun U => U.heap.size = sz ∧ va_P (dC, dI) vwCl (XL h ad ca tc cl tr g) U.heap ∧ va_K (dC, dI) vwCl (XT ca) U ∧ va_D (fun _ => True) (XL h ad ca tc cl tr g))) (va_Qi (fun (r : Int32) (u : Sg) => P r u) (at_X1 dC dI (va_A (XL h ad ca tc cl tr g) sz) h ad ca tc cl tr) (va_A (XL h ad ca tc cl tr g) sz)) 0 0 (va_A (XL h ad ca tc cl tr g) sz) := by
  refine Met.ofW (cc := cX0_bend) (maxL := 4) (ret := (some .int)) (by decide) rfl ?_
  intro p e s m args below meth c s₁ B0 hml hv
  obtain ⟨hargs, hsz, hP, hK, hD0⟩ := hv
  have hx := B0.exec
  have hb := B0.bytes
  have hr := B0.returns
  have hts := atoms_spec (ws := wsX0_bend) B0.pre
  have hown : s.vm.findClass RX0 = some m.cls := findClass_of_methodNamed B0.named
  have hlocks := B0.notSynchronized
  have inw : ∀ w ∈ wsX00, w ∈ wsX0_bend := fun w h => List.mem_cons_of_mem _ (List.mem_append_right _ h)
  subst hsz
  have hD := hD0.self (sz := s.heap.size)
  generalize hAe : va_A (XL h ad ca tc cl tr g) s.heap.size = A at hD ⊢
  have hA : ∀ q : Nat, s.heap.size ≤ q → A q := fun q h => by rw [← hAe]; exact Or.inr h
  clear hAe hD0
  have hS : va_S A s.heap s.heap [] := va_S.rf
  subst hargs
  unfold wX_bend at hw
  have hl := lv_entry ([.ref h, .int x1, .int x2, .int x3]) (n := 4) (Nat.le_of_ble_eq_true rfl)
  rw [lg_entry_eq]
  generalize (lg_sl ([.ref h, .int x1, .int x2, .int x3]) ++ List.replicate (4 - (lg_sl ([.ref h, .int x1, .int x2, .int x3])).length) Slot.unset).toArray = ls at hl ⊢
  have hl : lv_has ls 4 [(0, .ref h), (1, .int x1), (2, .int x2), (3, .int x3)] := hl
  obtain ⟨H, hHe⟩ : ∃ z : Heap, z = s.heap := ⟨_, rfl⟩
  obtain ⟨locs, hLe⟩ : ∃ z : List Loc, z = [] := ⟨_, rfl⟩
  have hS : va_S A s.heap H locs := by rw [hHe, hLe]; exact hS
  have hP : va_P (dC, dI) vwCl (XL h ad ca tc cl tr g) H := by rw [hHe]; exact hP
  have hgo : W p l e (headSpec wsX0_bend ({ frames := 3, cells := 0, slots := 0, locals := 67 })).room s m ([.ref h, .int x1, .int x2, .int x3] : List Value).toArray below meth c H locs 0 0 (MQ below (va_Qi (fun (r : Int32) (u : Sg) => P r u) (at_X1 dC dI A h ad ca tc cl tr) A) ([.ref h, .int x1, .int x2, .int x3] : List Value).toArray s 0 0 A) (F0 m 0 ls []) := by
    clear hHe hLe
    refine lv_aload_n hx hb dX0_bend_0 rfl (lv_at hl 0 rfl) ?_
    refine lv_iload_n hx hb dX0_bend_1 rfl (lv_at hl 3 rfl) ?_
    refine vp_callSi (W.runV (As := [.int x3]) (rest := []) ⟨hx, hb, hml, hown, hts⟩ (cX_isThing l dC dI h ad ca tc cl tr g x3 _ hw) (cwV 1 hts gX0_bend_X0_isThing rfl rfl rfl (by decide +kernel) ⟨Nat.le_of_ble_eq_true rfl, Nat.le_of_ble_eq_true rfl⟩) ⟨fun a U g mk q => by obtain ⟨q0, qP, qK⟩ := q; exact ⟨q0, qP, va_K.moved (u := U) (U := U.calling g mk a) (Vm.Alike.refl U.vm) qK⟩, va_recv hK hP (ci := 0) (q0 := 0) rfl rfl, fun U hU hW => ⟨rfl, by rw [hU]; exact hP, va_K.moved hW.alike hK⟩⟩ rfl rfl hl.1 rfl (lv_room (Nat.le_of_ble_eq_true rfl)) dX0_bend_2 ⟨Nat.zero_le _, Nat.zero_le _⟩) (fun r_1 hw => ?_)
    try dsimp only at hw
    refine lv_if_eq (tgt := 17) hx hb dX0_bend_5 (by decide) (fun hc => ?_) (fun hc => ?_)
    · replace hw := hw.1 hc
      clear hc
      refine lv_iconst (v := (-1 : Int32)) hx hb dX0_bend_17 (by decide) ?_
      exact W.iret (v := (-1 : Int32)) hx hb hr (fun t ht hW => ⟨⟨(-1 : Int32), g, rfl, hw, by rw [ht]; exact hP, va_K.moved hW.alike hK, hD⟩, hS.F ht⟩) hS.2.2 dX0_bend_18
    · replace hw := hw.2 hc
      clear hc
      refine lv_aload_n hx hb dX0_bend_8 rfl (lv_at hl 0 rfl) ?_
      refine lv_iload_n hx hb dX0_bend_9 rfl (lv_at hl 1 rfl) ?_
      refine lv_iload_n hx hb dX0_bend_10 rfl (lv_at hl 2 rfl) ?_
      have hFc := va_free (wc := (XL h ad ca tc cl tr g)) hD hS hA [0, 1, 2, 3, 4, 5, 6, 7, 8, 9, 10] rfl
      refine va_calli (va_runV (As := [.int x1, .int x2]) (rest := []) ⟨hx, hb, hml, hown, hts⟩ (cX_readFilling l dC dI h ad ca H.size tc cl tr g x1 x2 _ hw) (cwV 2 hts gX0_bend_X0_readFilling rfl rfl rfl (by decide +kernel) ⟨Nat.le_of_ble_eq_true rfl, Nat.le_of_ble_eq_true rfl⟩) ⟨fun a U g mk q => by obtain ⟨q0, q1, qP, qK, qD⟩ := q; exact ⟨q0, q1, qP, va_K.moved (u := U) (U := U.calling g mk a) (Vm.Alike.refl U.vm) qK, qD⟩, va_recv hK hP (ci := 0) (q0 := 0) rfl rfl, fun U hU hW => ⟨rfl, by rw [hU], by rw [hU]; exact hP, va_K.moved hW.alike hK, hD.weaken (fun _ _ _ _ => trivial)⟩⟩ rfl rfl hl.1 rfl (lv_room (Nat.le_of_ble_eq_true rfl)) dX0_bend_11 ⟨Nat.zero_le _, Nat.zero_le _⟩) hS (fun q _ h => hFc q h) hFc (fun r_2 g_3 t H1 locs ht hvm hw hB hz1 hk1 hS => ?_)
      obtain ⟨hP1, hK1, hD1⟩ := hB
      rw [ht] at hP1
      have hP : va_P (dC, dI) vwCl (XL h ad ca tc cl tr g_3) H1 := hP1
      have hD : va_D A (XL h ad ca tc cl tr g_3) := hD1.weaken (fun _ _ _ h => hFc _ h)
      clear hP1 hK1 hD1 hFc hk1 hz1 hvm ht
      generalize H1 = H at hP hS ⊢
      try dsimp only at hw
      refine lv_if_ne (tgt := 19) hx hb dX0_bend_14 (by decide) (fun hc => ?_) (fun hc => ?_)
      · replace hw := hw.1 hc
        clear hc
        refine lv_aload_n hx hb dX0_bend_19 rfl (lv_at hl 0 rfl) ?_
        refine lv_iload_n hx hb dX0_bend_20 rfl (lv_at hl 1 rfl) ?_
        refine lv_iload_n hx hb dX0_bend_21 rfl (lv_at hl 3 rfl) ?_
        have hFc := va_free (wc := (XL h ad ca tc cl tr g_3)) hD hS hA [0, 1, 2, 3, 4, 5, 6, 7, 8, 9, 10] rfl
        refine va_callv (va_runV (As := [.int x1, .int x3]) (rest := []) ⟨hx, hb, hml, hown, hts⟩ (cX_flipDigit l dC dI h ad ca H.size tc cl tr g_3 x1 x3 _ hw) (cwV 2 hts gX0_bend_X0_flipDigit rfl rfl rfl (by decide +kernel) ⟨Nat.le_of_ble_eq_true rfl, Nat.le_of_ble_eq_true rfl⟩) ⟨fun a U g mk q => by obtain ⟨q0, q1, qP, qK, qD⟩ := q; exact ⟨q0, q1, qP, va_K.moved (u := U) (U := U.calling g mk a) (Vm.Alike.refl U.vm) qK, qD⟩, va_recv hK hP (ci := 0) (q0 := 0) rfl rfl, fun U hU hW => ⟨rfl, by rw [hU], by rw [hU]; exact hP, va_K.moved hW.alike hK, hD.weaken (fun _ _ _ _ => trivial)⟩⟩ rfl rfl hl.1 rfl (lv_room (Nat.le_of_ble_eq_true rfl)) dX0_bend_22 ⟨Nat.zero_le _, Nat.zero_le _⟩) hS (fun q _ h => hFc q h) hFc (fun g_4 t H1 locs ht hvm hw hB hz1 hk1 hS => ?_)
        obtain ⟨hP1, hK1, hD1⟩ := hB
        rw [ht] at hP1
        have hP : va_P (dC, dI) vwCl (XL h ad ca tc cl tr g_4) H1 := hP1
        have hD : va_D A (XL h ad ca tc cl tr g_4) := hD1.weaken (fun _ _ _ h => hFc _ h)
        clear hP1 hK1 hD1 hFc hk1 hz1 hvm ht
        generalize H1 = H at hP hS ⊢
        try dsimp only at hw
        refine lv_aload_n hx hb dX0_bend_25 rfl (lv_at hl 0 rfl) ?_
        refine lv_iload_n hx hb dX0_bend_26 rfl (lv_at hl 1 rfl) ?_
        refine vp_callSi (W.runV (As := [.int x1]) (rest := []) ⟨hx, hb, hml, hown, hts⟩ (cX_numberOfDigits l dC dI h ad ca tc cl tr g_4 x1 _ hw) (cwV 1 hts gX0_bend_X0_numberOfDigits rfl rfl rfl (by decide +kernel) ⟨Nat.le_of_ble_eq_true rfl, Nat.le_of_ble_eq_true rfl⟩) ⟨fun a U g mk q => by obtain ⟨q0, qP, qK⟩ := q; exact ⟨q0, qP, va_K.moved (u := U) (U := U.calling g mk a) (Vm.Alike.refl U.vm) qK⟩, va_recv hK hP (ci := 0) (q0 := 0) rfl rfl, fun U hU hW => ⟨rfl, by rw [hU]; exact hP, va_K.moved hW.alike hK⟩⟩ rfl rfl hl.1 rfl (lv_room (Nat.le_of_ble_eq_true rfl)) dX0_bend_27 ⟨Nat.zero_le _, Nat.zero_le _⟩) (fun r_5 hw => ?_)
        try dsimp only at hw
        exact W.iret (v := r_5) hx hb hr (fun t ht hW => ⟨⟨r_5, g_4, rfl, hw, by rw [ht]; exact hP, va_K.moved hW.alike hK, hD⟩, hS.F ht⟩) hS.2.2 dX0_bend_30
      · replace hw := hw.2 hc
        clear hc
        refine lv_iconst (v := (-1 : Int32)) hx hb dX0_bend_17 (by decide) ?_
        exact W.iret (v := (-1 : Int32)) hx hb hr (fun t ht hW => ⟨⟨(-1 : Int32), g_3, rfl, hw, by rw [ht]; exact hP, va_K.moved hW.alike hK, hD⟩, hS.F ht⟩) hS.2.2 dX0_bend_18
  rw [hHe, hLe] at hgo
  exact hgo
-- X0_turnDigits
set_option maxHeartbeats 4000000 in
set_option maxRecDepth 100000 in
theorem cX_turnDigits (l : Launch) (dC : Nat → ClassId) (dI : Nat → Nat → Nat) (h : Nat) (ad : Nat → Nat) (ca : Nat → ClassId) (sz : Nat) (tc cl : Int32) (tr : Int64) (g : Sg) (x1 : Int32) (x2 : Int32) (P : Sg → Prop) (hw : wX_turnDigits P tc cl tr g x1 x2) : Met l yX0_turnDigits wsX0_turnDigits ({ frames := 2, cells := 0, slots := 0, locals := 46 }) (va_Pc [.ref h, .int x1, .int x2] (fun U => U.heap.size = sz ∧ va_P (dC, dI) vwCl (XL h ad ca tc cl tr g) U.heap ∧ va_K (dC, dI) vwCl (XT ca) U ∧ va_D (fun _ => True) (XL h ad ca tc cl tr g))) (va_Qv (fun (u : Sg) => P u) (at_X1 dC dI (va_A (XL h ad ca tc cl tr g) sz) h ad ca tc cl tr) (va_A (XL h ad ca tc cl tr g) sz)) 0 0 (va_A (XL h ad ca tc cl tr g) sz) := by
  refine Met.ofW (cc := cX0_turnDigits) (maxL := 4) (ret := none) (by decide) rfl ?_
  intro p e s m args below meth c s₁ B0 hml hv
  obtain ⟨hargs, hsz, hP, hK, hD0⟩ := hv
  have hx := B0.exec
  have hb := B0.bytes
  have hr := B0.returns
  have hts := atoms_spec (ws := wsX0_turnDigits) B0.pre
  have hown : s.vm.findClass RX0 = some m.cls := findClass_of_methodNamed B0.named
  have hlocks := B0.notSynchronized
  have inw : ∀ w ∈ wsX00, w ∈ wsX0_turnDigits := fun w h => List.mem_cons_of_mem _ (List.mem_append_right _ h)
  have f9 : (Cond.fieldLink RX0 9 "FlipHeaps" "thingCount" "I").before args s = true := hts _ (by decide +kernel)
  have f23 : (Cond.fieldLink RX0 23 "FlipHeaps" "chain" "[I").before args s = true := hts _ (by decide +kernel)
  have f45 : (Cond.fieldLink RX0 45 "FlipHeaps" "chainLength" "I").before args s = true := hts _ (by decide +kernel)
  subst hsz
  have hD := hD0.self (sz := s.heap.size)
  generalize hAe : va_A (XL h ad ca tc cl tr g) s.heap.size = A at hD ⊢
  have hA : ∀ q : Nat, s.heap.size ≤ q → A q := fun q h => by rw [← hAe]; exact Or.inr h
  clear hAe hD0
  have hS : va_S A s.heap s.heap [] := va_S.rf
  have lp_11 : ∀ (x1 : Int32) (K27 : Sg → Prop) (hK27 : ∀ (g : Sg) (H : Heap) (locs : List Loc) (ls : Array Slot), K27 g → va_P (dC, dI) vwCl (XL h ad ca tc cl tr g) H → va_D A (XL h ad ca tc cl tr g) → va_S A s.heap H locs → lv_has ls 4 [(0, .ref h)] → W p l e (headSpec wsX0_turnDigits ({ frames := 2, cells := 0, slots := 0, locals := 46 })).room s m args below meth c H locs 0 0 (MQ below (va_Qv (fun (u : Sg) => P u) (at_X1 dC dI A h ad ca tc cl tr) A) args s 0 0 A) (F0 m 27 ls [])), ∀ (n : Nat) (x3 : Int32) (g : Sg) (H : Heap) (locs : List Loc) (ls : Array Slot), Lp2 (wX_turnDigits_b11 P tc cl tr x1 K27) n x3 g → va_P (dC, dI) vwCl (XL h ad ca tc cl tr g) H → va_D A (XL h ad ca tc cl tr g) → va_S A s.heap H locs → lv_has ls 4 [(0, .ref h), (1, .int x1), (3, .int x3)] → W p l e (headSpec wsX0_turnDigits ({ frames := 2, cells := 0, slots := 0, locals := 46 })).room s m args below meth c H locs 0 0 (MQ below (va_Qv (fun (u : Sg) => P u) (at_X1 dC dI A h ad ca tc cl tr) A) args s 0 0 A) (F0 m 11 ls []) := by
    intro x1 K27 hK27
    intro n
    induction n with
    | zero => intro x3 g H locs ls hw; exact False.elim hw
    | succ n hB =>
      intro x3 g H locs ls hw hP hD hS hl
      replace hw : wX_turnDigits_b11 P tc cl tr x1 K27 (Lp2 (wX_turnDigits_b11 P tc cl tr x1 K27) n) x3 g := hw
      unfold wX_turnDigits_b11 at hw
      refine lv_iload_n hx hb dX0_turnDigits_11 rfl (lv_at hl 2 rfl) ?_
      refine lv_if_lt (tgt := 27) hx hb dX0_turnDigits_12 (by decide) (fun hc => ?_) (fun hc => ?_)
      · replace hw := hw.1 hc
        clear hc
        exact hK27 g H locs ls hw hP hD hS (lv_sub hl [0] rfl)
      · replace hw := hw.2 hc
        clear hc
        refine lv_aload_n hx hb dX0_turnDigits_15 rfl (lv_at hl 0 rfl) ?_
        refine lv_iload_n hx hb dX0_turnDigits_16 rfl (lv_at hl 1 rfl) ?_
        refine lv_iload_n hx hb dX0_turnDigits_17 rfl (lv_at hl 2 rfl) ?_
        have hFc := va_free (wc := (XL h ad ca tc cl tr g)) hD hS hA [0, 1, 2, 3, 4, 5, 6, 7, 8, 9, 10] rfl
        refine va_callv (va_runV (As := [.int x1, .int x3]) (rest := []) ⟨hx, hb, hml, hown, hts⟩ (cX_flipDigit l dC dI h ad ca H.size tc cl tr g x1 x3 _ hw) (cwV 2 hts gX0_turnDigits_X0_flipDigit rfl rfl rfl (by decide +kernel) ⟨Nat.le_of_ble_eq_true rfl, Nat.le_of_ble_eq_true rfl⟩) ⟨fun a U g mk q => by obtain ⟨q0, q1, qP, qK, qD⟩ := q; exact ⟨q0, q1, qP, va_K.moved (u := U) (U := U.calling g mk a) (Vm.Alike.refl U.vm) qK, qD⟩, va_recv hK hP (ci := 0) (q0 := 0) rfl rfl, fun U hU hW => ⟨rfl, by rw [hU], by rw [hU]; exact hP, va_K.moved hW.alike hK, hD.weaken (fun _ _ _ _ => trivial)⟩⟩ rfl rfl hl.1 rfl (lv_room (Nat.le_of_ble_eq_true rfl)) dX0_turnDigits_18 ⟨Nat.zero_le _, Nat.zero_le _⟩) hS (fun q _ h => hFc q h) hFc (fun g_1 t H1 locs ht hvm hw hB hz1 hk1 hS => ?_)
        obtain ⟨hP1, hK1, hD1⟩ := hB
        rw [ht] at hP1
        have hP : va_P (dC, dI) vwCl (XL h ad ca tc cl tr g_1) H1 := hP1
        have hD : va_D A (XL h ad ca tc cl tr g_1) := hD1.weaken (fun _ _ _ h => hFc _ h)
        clear hP1 hK1 hD1 hFc hk1 hz1 hvm ht
        generalize H1 = H at hP hS ⊢
        try dsimp only at hw
        refine lv_iinc (v := (x3 + (-1))) (lv' := [(3, .int ((x3 + (-1)))), (0, .ref h), (1, .int x1)]) hx hb dX0_turnDigits_21 hl (k := 2) rfl rfl (by decide) rfl (fun ls hl => ?_)
        refine lv_goto (tgt := 11) hx hb dX0_turnDigits_24 (by decide) ?_
        exact hB (x3 + (-1)) g_1 H locs ls hw hP hD hS (lv_sub hl [1, 2, 0] rfl)
  have lp_32 : ∀ (x1 : Int32), ∀ (n : Nat) (x3 : Int32) (g : Sg) (H : Heap) (locs : List Loc) (ls : Array Slot), Lp2 (wX_turnDigits_b32 P tc cl tr x1) n x3 g → va_P (dC, dI) vwCl (XL h ad ca tc cl tr g) H → va_D A (XL h ad ca tc cl tr g) → va_S A s.heap H locs → lv_has ls 4 [(0, .ref h), (1, .int x1), (3, .int x3)] → W p l e (headSpec wsX0_turnDigits ({ frames := 2, cells := 0, slots := 0, locals := 46 })).room s m args below meth c H locs 0 0 (MQ below (va_Qv (fun (u : Sg) => P u) (at_X1 dC dI A h ad ca tc cl tr) A) args s 0 0 A) (F0 m 32 ls []) := by
    intro x1
    intro n
    induction n with
    | zero => intro x3 g H locs ls hw; exact False.elim hw
    | succ n hB =>
      intro x3 g H locs ls hw hP hD hS hl
      replace hw : wX_turnDigits_b32 P tc cl tr x1 (Lp2 (wX_turnDigits_b32 P tc cl tr x1) n) x3 g := hw
      unfold wX_turnDigits_b32 at hw
      refine lv_iload_n hx hb dX0_turnDigits_32 rfl (lv_at hl 2 rfl) ?_
      refine lv_aload_n hx hb dX0_turnDigits_33 rfl (lv_at hl 0 rfl) ?_
      refine va_get (D := (dC, dI)) (ci := 0) (C := RX0) (T := TX0) (N := 13) hx hb hts inw hown hK hP 0 rfl rfl 1 (by decide) f45 (fun _ h9 => h9) rfl dX0_turnDigits_34 ?_
      refine lv_icmp_ge (tgt := 57) hx hb dX0_turnDigits_37 (by decide) (fun hc => ?_) (fun hc => ?_)
      · replace hw := hw.1 hc
        clear hc
        exact W.vret hx hb hr (fun t ht hW => ⟨⟨g, rfl, hw, by rw [ht]; exact hP, va_K.moved hW.alike hK, hD⟩, hS.F ht⟩) hS.2.2 dX0_turnDigits_57
      · replace hw := hw.2 hc
        clear hc
        refine lv_aload_n hx hb dX0_turnDigits_40 rfl (lv_at hl 0 rfl) ?_
        refine lv_iload_n hx hb dX0_turnDigits_41 rfl (lv_at hl 1 rfl) ?_
        refine lv_aload_n hx hb dX0_turnDigits_42 rfl (lv_at hl 0 rfl) ?_
        refine va_get (D := (dC, dI)) (ci := 0) (C := RX0) (T := TX0) (N := 13) hx hb hts inw hown hK hP 0 rfl rfl 6 (by decide) f23 (fun _ h9 => h9) rfl dX0_turnDigits_43 ?_
        refine lv_iload_n hx hb dX0_turnDigits_46 rfl (lv_at hl 2 rfl) ?_
        obtain ⟨hin, hw⟩ := hw
        refine va_iald hx hb hK hP 4 3 rfl rfl hin dX0_turnDigits_47 ?_
        have hFc := va_free (wc := (XL h ad ca tc cl tr g)) hD hS hA [0, 1, 2, 3, 4, 5, 6, 7, 8, 9, 10] rfl
        refine va_callv (va_runV (As := [.int x1, .int ((g 6 (x3).toNatClampNeg))]) (rest := []) ⟨hx, hb, hml, hown, hts⟩ (cX_flipDigit l dC dI h ad ca H.size tc cl tr g x1 (g 6 (x3).toNatClampNeg) _ hw) (cwV 2 hts gX0_turnDigits_X0_flipDigit rfl rfl rfl (by decide +kernel) ⟨Nat.le_of_ble_eq_true rfl, Nat.le_of_ble_eq_true rfl⟩) ⟨fun a U g mk q => by obtain ⟨q0, q1, qP, qK, qD⟩ := q; exact ⟨q0, q1, qP, va_K.moved (u := U) (U := U.calling g mk a) (Vm.Alike.refl U.vm) qK, qD⟩, va_recv hK hP (ci := 0) (q0 := 0) rfl rfl, fun U hU hW => ⟨rfl, by rw [hU], by rw [hU]; exact hP, va_K.moved hW.alike hK, hD.weaken (fun _ _ _ _ => trivial)⟩⟩ rfl rfl hl.1 rfl (lv_room (Nat.le_of_ble_eq_true rfl)) dX0_turnDigits_48 ⟨Nat.zero_le _, Nat.zero_le _⟩) hS (fun q _ h => hFc q h) hFc (fun g_2 t H1 locs ht hvm hw hB hz1 hk1 hS => ?_)
        obtain ⟨hP1, hK1, hD1⟩ := hB
        rw [ht] at hP1
        have hP : va_P (dC, dI) vwCl (XL h ad ca tc cl tr g_2) H1 := hP1
        have hD : va_D A (XL h ad ca tc cl tr g_2) := hD1.weaken (fun _ _ _ h => hFc _ h)
        clear hP1 hK1 hD1 hFc hk1 hz1 hvm ht
        generalize H1 = H at hP hS ⊢
        try dsimp only at hw
        refine lv_iinc (v := (x3 + 1)) (lv' := [(3, .int ((x3 + 1))), (0, .ref h), (1, .int x1)]) hx hb dX0_turnDigits_51 hl (k := 2) rfl rfl (by decide) rfl (fun ls hl => ?_)
        refine lv_goto (tgt := 32) hx hb dX0_turnDigits_54 (by decide) ?_
        exact hB (x3 + 1) g_2 H locs ls hw hP hD hS (lv_sub hl [1, 2, 0] rfl)
  subst hargs
  unfold wX_turnDigits at hw
  have hl := lv_entry ([.ref h, .int x1, .int x2]) (n := 4) (Nat.le_of_ble_eq_true rfl)
  rw [lg_entry_eq]
  generalize (lg_sl ([.ref h, .int x1, .int x2]) ++ List.replicate (4 - (lg_sl ([.ref h, .int x1, .int x2])).length) Slot.unset).toArray = ls at hl ⊢
  have hl : lv_has ls 4 [(0, .ref h), (1, .int x1), (2, .int x2)] := hl
  obtain ⟨H, hHe⟩ : ∃ z : Heap, z = s.heap := ⟨_, rfl⟩
  obtain ⟨locs, hLe⟩ : ∃ z : List Loc, z = [] := ⟨_, rfl⟩
  have hS : va_S A s.heap H locs := by rw [hHe, hLe]; exact hS
  have hP : va_P (dC, dI) vwCl (XL h ad ca tc cl tr g) H := by rw [hHe]; exact hP
  have hgo : W p l e (headSpec wsX0_turnDigits ({ frames := 2, cells := 0, slots := 0, locals := 46 })).room s m ([.ref h, .int x1, .int x2] : List Value).toArray below meth c H locs 0 0 (MQ below (va_Qv (fun (u : Sg) => P u) (at_X1 dC dI A h ad ca tc cl tr) A) ([.ref h, .int x1, .int x2] : List Value).toArray s 0 0 A) (F0 m 0 ls []) := by
    clear hHe hLe
    refine lv_iload_n hx hb dX0_turnDigits_0 rfl (lv_at hl 2 rfl) ?_
    refine lv_if_ne (tgt := 30) hx hb dX0_turnDigits_1 (by decide) (fun hc => ?_) (fun hc => ?_)
    · replace hw := hw.1 hc
      clear hc
      refine lv_iconst (v := (0 : Int32)) hx hb dX0_turnDigits_30 (by decide) ?_
      refine lv_istore_n (lv' := [(3, .int (0 : Int32)), (0, .ref h), (1, .int x1), (2, .int x2)]) hx hb dX0_turnDigits_31 rfl hl (by decide) rfl (fun ls hl => ?_)
      obtain ⟨n_3, hw⟩ := hw
      exact lp_32 x1 n_3 (0 : Int32) g H locs ls hw hP hD hS (lv_sub hl [1, 2, 0] rfl)
    · replace hw := hw.2 hc
      clear hc
      refine lv_aload_n hx hb dX0_turnDigits_4 rfl (lv_at hl 0 rfl) ?_
      refine va_get (D := (dC, dI)) (ci := 0) (C := RX0) (T := TX0) (N := 13) hx hb hts inw hown hK hP 0 rfl rfl 0 (by decide) f9 (fun _ h9 => h9) rfl dX0_turnDigits_5 ?_
      refine lv_iconst (v := (1 : Int32)) hx hb dX0_turnDigits_8 (by decide) ?_
      refine lv_isub hx hb dX0_turnDigits_9 ?_
      refine lv_topi (fun x3_4 hv => ?_)
      replace hw := hw x3_4 hv
      clear hv
      refine lv_istore_n (lv' := [(3, .int x3_4), (0, .ref h), (1, .int x1), (2, .int x2)]) hx hb dX0_turnDigits_10 rfl hl (by decide) rfl (fun ls hl => ?_)
      obtain ⟨n_6, hw⟩ := hw
      refine lp_11 x1 _ ?_ n_6 x3_4 g H locs ls hw hP hD hS (lv_sub hl [1, 2, 0] rfl)
      · intro g_5 H locs ls hw hP hD hS hl
        try dsimp only at hw
        refine lv_goto (tgt := 57) hx hb dX0_turnDigits_27 (by decide) ?_
        exact W.vret hx hb hr (fun t ht hW => ⟨⟨g_5, rfl, hw, by rw [ht]; exact hP, va_K.moved hW.alike hK, hD⟩, hS.F ht⟩) hS.2.2 dX0_turnDigits_57
  rw [hHe, hLe] at hgo
  exact hgo
-- X0_round
set_option maxHeartbeats 4000000 in
set_option maxRecDepth 100000 in
theorem cX_round (l : Launch) (dC : Nat → ClassId) (dI : Nat → Nat → Nat) (h : Nat) (ad : Nat → Nat) (ca : Nat → ClassId) (sz : Nat) (tc cl : Int32) (tr : Int64) (g : Sg) (x1 : Int32) (x2 : Int32) (x3 : Int32) (P : Int32 → Sg → Prop) (hw : wX_round P tc cl tr g x1 x2 x3) : Met l yX0_round wsX0_round ({ frames := 3, cells := 0, slots := 0, locals := 69 }) (va_Pc [.ref h, .int x1, .int x2, .int x3] (fun U => U.heap.size = sz ∧ va_P (dC, dI) vwCl (XL h ad ca tc cl tr g) U.heap ∧ va_K (dC, dI) vwCl (XT ca) U ∧ va_D (fun _ => True) (XL h ad ca tc cl tr g))) (va_Qi (fun (r : Int32) (u : Sg) => P r u) (at_X1 dC dI (va_A (XL h ad ca tc cl tr g) sz) h ad ca tc cl tr) (va_A (XL h ad ca tc cl tr g) sz)) 0 0 (va_A (XL h ad ca tc cl tr g) sz) := by
  refine Met.ofW (cc := cX0_round) (maxL := 4) (ret := (some .int)) (by decide) rfl ?_
  intro p e s m args below meth c s₁ B0 hml hv
  obtain ⟨hargs, hsz, hP, hK, hD0⟩ := hv
  have hx := B0.exec
  have hb := B0.bytes
  have hr := B0.returns
  have hts := atoms_spec (ws := wsX0_round) B0.pre
  have hown : s.vm.findClass RX0 = some m.cls := findClass_of_methodNamed B0.named
  have hlocks := B0.notSynchronized
  have inw : ∀ w ∈ wsX00, w ∈ wsX0_round := fun w h => List.mem_cons_of_mem _ (List.mem_append_right _ h)
  subst hsz
  have hD := hD0.self (sz := s.heap.size)
  generalize hAe : va_A (XL h ad ca tc cl tr g) s.heap.size = A at hD ⊢
  have hA : ∀ q : Nat, s.heap.size ≤ q → A q := fun q h => by rw [← hAe]; exact Or.inr h
  clear hAe hD0
  have hS : va_S A s.heap s.heap [] := va_S.rf
  subst hargs
  unfold wX_round at hw
  have hl := lv_entry ([.ref h, .int x1, .int x2, .int x3]) (n := 4) (Nat.le_of_ble_eq_true rfl)
  rw [lg_entry_eq]
  generalize (lg_sl ([.ref h, .int x1, .int x2, .int x3]) ++ List.replicate (4 - (lg_sl ([.ref h, .int x1, .int x2, .int x3])).length) Slot.unset).toArray = ls at hl ⊢
  have hl : lv_has ls 4 [(0, .ref h), (1, .int x1), (2, .int x2), (3, .int x3)] := hl
  obtain ⟨H, hHe⟩ : ∃ z : Heap, z = s.heap := ⟨_, rfl⟩
  obtain ⟨locs, hLe⟩ : ∃ z : List Loc, z = [] := ⟨_, rfl⟩
  have hS : va_S A s.heap H locs := by rw [hHe, hLe]; exact hS
  have hP : va_P (dC, dI) vwCl (XL h ad ca tc cl tr g) H := by rw [hHe]; exact hP
  have hgo : W p l e (headSpec wsX0_round ({ frames := 3, cells := 0, slots := 0, locals := 69 })).room s m ([.ref h, .int x1, .int x2, .int x3] : List Value).toArray below meth c H locs 0 0 (MQ below (va_Qi (fun (r : Int32) (u : Sg) => P r u) (at_X1 dC dI A h ad ca tc cl tr) A) ([.ref h, .int x1, .int x2, .int x3] : List Value).toArray s 0 0 A) (F0 m 0 ls []) := by
    clear hHe hLe
    refine lv_iload_n hx hb dX0_round_0 rfl (lv_at hl 3 rfl) ?_
    refine vp_callSi (W.runS (As := [.int x3]) (rest := []) ⟨hx, hb, hml, hown, hts⟩ (cX_isTurnKind l x3 _ hw) (va_cwS 1 hts gX0_round_X0_isTurnKind rfl rfl rfl (by decide +kernel) ⟨Nat.le_of_ble_eq_true rfl, Nat.le_of_ble_eq_true rfl⟩) ⟨fun a U g mk q => q, fun U hU hW => ⟨rfl, trivial⟩⟩ rfl rfl hl.1 rfl (lv_room (Nat.le_of_ble_eq_true rfl)) dX0_round_1 ⟨Nat.zero_le _, Nat.zero_le _⟩) (fun r_1 hw => ?_)
    try dsimp only at hw
    refine lv_if_eq (tgt := 16) hx hb dX0_round_4 (by decide) (fun hc => ?_) (fun hc => ?_)
    · replace hw := hw.1 hc
      clear hc
      refine lv_iconst (v := (-1 : Int32)) hx hb dX0_round_16 (by decide) ?_
      exact W.iret (v := (-1 : Int32)) hx hb hr (fun t ht hW => ⟨⟨(-1 : Int32), g, rfl, hw, by rw [ht]; exact hP, va_K.moved hW.alike hK, hD⟩, hS.F ht⟩) hS.2.2 dX0_round_17
    · replace hw := hw.2 hc
      clear hc
      refine lv_aload_n hx hb dX0_round_7 rfl (lv_at hl 0 rfl) ?_
      refine lv_iload_n hx hb dX0_round_8 rfl (lv_at hl 1 rfl) ?_
      refine lv_iload_n hx hb dX0_round_9 rfl (lv_at hl 2 rfl) ?_
      have hFc := va_free (wc := (XL h ad ca tc cl tr g)) hD hS hA [0, 1, 2, 3, 4, 5, 6, 7, 8, 9, 10] rfl
      refine va_calli (va_runV (As := [.int x1, .int x2]) (rest := []) ⟨hx, hb, hml, hown, hts⟩ (cX_readFilling l dC dI h ad ca H.size tc cl tr g x1 x2 _ hw) (cwV 2 hts gX0_round_X0_readFilling rfl rfl rfl (by decide +kernel) ⟨Nat.le_of_ble_eq_true rfl, Nat.le_of_ble_eq_true rfl⟩) ⟨fun a U g mk q => by obtain ⟨q0, q1, qP, qK, qD⟩ := q; exact ⟨q0, q1, qP, va_K.moved (u := U) (U := U.calling g mk a) (Vm.Alike.refl U.vm) qK, qD⟩, va_recv hK hP (ci := 0) (q0 := 0) rfl rfl, fun U hU hW => ⟨rfl, by rw [hU], by rw [hU]; exact hP, va_K.moved hW.alike hK, hD.weaken (fun _ _ _ _ => trivial)⟩⟩ rfl rfl hl.1 rfl (lv_room (Nat.le_of_ble_eq_true rfl)) dX0_round_10 ⟨Nat.zero_le _, Nat.zero_le _⟩) hS (fun q _ h => hFc q h) hFc (fun r_2 g_3 t H1 locs ht hvm hw hB hz1 hk1 hS => ?_)
      obtain ⟨hP1, hK1, hD1⟩ := hB
      rw [ht] at hP1
      have hP : va_P (dC, dI) vwCl (XL h ad ca tc cl tr g_3) H1 := hP1
      have hD : va_D A (XL h ad ca tc cl tr g_3) := hD1.weaken (fun _ _ _ h => hFc _ h)
      clear hP1 hK1 hD1 hFc hk1 hz1 hvm ht
      generalize H1 = H at hP hS ⊢
      try dsimp only at hw
      refine lv_if_ne (tgt := 18) hx hb dX0_round_13 (by decide) (fun hc => ?_) (fun hc => ?_)
      · replace hw := hw.1 hc
        clear hc
        refine lv_aload_n hx hb dX0_round_18 rfl (lv_at hl 0 rfl) ?_
        refine lv_iload_n hx hb dX0_round_19 rfl (lv_at hl 1 rfl) ?_
        refine lv_iload_n hx hb dX0_round_20 rfl (lv_at hl 3 rfl) ?_
        have hFc := va_free (wc := (XL h ad ca tc cl tr g_3)) hD hS hA [0, 1, 2, 3, 4, 5, 6, 7, 8, 9, 10] rfl
        refine va_callv (va_runV (As := [.int x1, .int x3]) (rest := []) ⟨hx, hb, hml, hown, hts⟩ (cX_turnDigits l dC dI h ad ca H.size tc cl tr g_3 x1 x3 _ hw) (cwV 2 hts gX0_round_X0_turnDigits rfl rfl rfl (by decide +kernel) ⟨Nat.le_of_ble_eq_true rfl, Nat.le_of_ble_eq_true rfl⟩) ⟨fun a U g mk q => by obtain ⟨q0, q1, qP, qK, qD⟩ := q; exact ⟨q0, q1, qP, va_K.moved (u := U) (U := U.calling g mk a) (Vm.Alike.refl U.vm) qK, qD⟩, va_recv hK hP (ci := 0) (q0 := 0) rfl rfl, fun U hU hW => ⟨rfl, by rw [hU], by rw [hU]; exact hP, va_K.moved hW.alike hK, hD.weaken (fun _ _ _ _ => trivial)⟩⟩ rfl rfl hl.1 rfl (lv_room (Nat.le_of_ble_eq_true rfl)) dX0_round_21 ⟨Nat.zero_le _, Nat.zero_le _⟩) hS (fun q _ h => hFc q h) hFc (fun g_4 t H1 locs ht hvm hw hB hz1 hk1 hS => ?_)
        obtain ⟨hP1, hK1, hD1⟩ := hB
        rw [ht] at hP1
        have hP : va_P (dC, dI) vwCl (XL h ad ca tc cl tr g_4) H1 := hP1
        have hD : va_D A (XL h ad ca tc cl tr g_4) := hD1.weaken (fun _ _ _ h => hFc _ h)
        clear hP1 hK1 hD1 hFc hk1 hz1 hvm ht
        generalize H1 = H at hP hS ⊢
        try dsimp only at hw
        refine lv_aload_n hx hb dX0_round_24 rfl (lv_at hl 0 rfl) ?_
        refine lv_iload_n hx hb dX0_round_25 rfl (lv_at hl 1 rfl) ?_
        refine vp_callSi (W.runV (As := [.int x1]) (rest := []) ⟨hx, hb, hml, hown, hts⟩ (cX_numberOfDigits l dC dI h ad ca tc cl tr g_4 x1 _ hw) (cwV 1 hts gX0_round_X0_numberOfDigits rfl rfl rfl (by decide +kernel) ⟨Nat.le_of_ble_eq_true rfl, Nat.le_of_ble_eq_true rfl⟩) ⟨fun a U g mk q => by obtain ⟨q0, qP, qK⟩ := q; exact ⟨q0, qP, va_K.moved (u := U) (U := U.calling g mk a) (Vm.Alike.refl U.vm) qK⟩, va_recv hK hP (ci := 0) (q0 := 0) rfl rfl, fun U hU hW => ⟨rfl, by rw [hU]; exact hP, va_K.moved hW.alike hK⟩⟩ rfl rfl hl.1 rfl (lv_room (Nat.le_of_ble_eq_true rfl)) dX0_round_26 ⟨Nat.zero_le _, Nat.zero_le _⟩) (fun r_5 hw => ?_)
        try dsimp only at hw
        exact W.iret (v := r_5) hx hb hr (fun t ht hW => ⟨⟨r_5, g_4, rfl, hw, by rw [ht]; exact hP, va_K.moved hW.alike hK, hD⟩, hS.F ht⟩) hS.2.2 dX0_round_29
      · replace hw := hw.2 hc
        clear hc
        refine lv_iconst (v := (-1 : Int32)) hx hb dX0_round_16 (by decide) ?_
        exact W.iret (v := (-1 : Int32)) hx hb hr (fun t ht hW => ⟨⟨(-1 : Int32), g_3, rfl, hw, by rw [ht]; exact hP, va_K.moved hW.alike hK, hD⟩, hS.F ht⟩) hS.2.2 dX0_round_17
  rw [hHe, hLe] at hgo
  exact hgo
-- X0_period
set_option maxHeartbeats 4000000 in
set_option maxRecDepth 100000 in
theorem cX_period (l : Launch) (dC : Nat → ClassId) (dI : Nat → Nat → Nat) (h : Nat) (ad : Nat → Nat) (ca : Nat → ClassId) (sz : Nat) (tc cl : Int32) (tr : Int64) (g : Sg) (x1 : Int32) (x2 : Int32) (x3 : Int32) (P : Int32 → Sg → Prop) (hw : wX_period P tc cl tr g x1 x2 x3) : Met l yX0_period wsX0_period ({ frames := 3, cells := 0, slots := 0, locals := 69 }) (va_Pc [.ref h, .int x1, .int x2, .int x3] (fun U => U.heap.size = sz ∧ va_P (dC, dI) vwCl (XL h ad ca tc cl tr g) U.heap ∧ va_K (dC, dI) vwCl (XT ca) U ∧ va_D (fun _ => True) (XL h ad ca tc cl tr g))) (va_Qi (fun (r : Int32) (u : Sg) => P r u) (at_X1 dC dI (va_A (XL h ad ca tc cl tr g) sz) h ad ca tc cl tr) (va_A (XL h ad ca tc cl tr g) sz)) 0 0 (va_A (XL h ad ca tc cl tr g) sz) := by
  refine Met.ofW (cc := cX0_period) (maxL := 5) (ret := (some .int)) (by decide) rfl ?_
  intro p e s m args below meth c s₁ B0 hml hv
  obtain ⟨hargs, hsz, hP, hK, hD0⟩ := hv
  have hx := B0.exec
  have hb := B0.bytes
  have hr := B0.returns
  have hts := atoms_spec (ws := wsX0_period) B0.pre
  have hown : s.vm.findClass RX0 = some m.cls := findClass_of_methodNamed B0.named
  have hlocks := B0.notSynchronized
  have inw : ∀ w ∈ wsX00, w ∈ wsX0_period := fun w h => List.mem_cons_of_mem _ (List.mem_append_right _ h)
  subst hsz
  have hD := hD0.self (sz := s.heap.size)
  generalize hAe : va_A (XL h ad ca tc cl tr g) s.heap.size = A at hD ⊢
  have hA : ∀ q : Nat, s.heap.size ≤ q → A q := fun q h => by rw [← hAe]; exact Or.inr h
  clear hAe hD0
  have hS : va_S A s.heap s.heap [] := va_S.rf
  have lp_21 : ∀ (x1 : Int32) (x2 : Int32) (x3 : Int32), ∀ (n : Nat) (x4 : Int32) (g : Sg) (H : Heap) (locs : List Loc) (ls : Array Slot), Lp2 (wX_period_b21 P tc cl tr x1 x2 x3) n x4 g → va_P (dC, dI) vwCl (XL h ad ca tc cl tr g) H → va_D A (XL h ad ca tc cl tr g) → va_S A s.heap H locs → lv_has ls 5 [(0, .ref h), (1, .int x1), (2, .int x2), (3, .int x3), (4, .int x4)] → W p l e (headSpec wsX0_period ({ frames := 3, cells := 0, slots := 0, locals := 69 })).room s m args below meth c H locs 0 0 (MQ below (va_Qi (fun (r : Int32) (u : Sg) => P r u) (at_X1 dC dI A h ad ca tc cl tr) A) args s 0 0 A) (F0 m 21 ls []) := by
    intro x1 x2 x3
    intro n
    induction n with
    | zero => intro x4 g H locs ls hw; exact False.elim hw
    | succ n hB =>
      intro x4 g H locs ls hw hP hD hS hl
      replace hw : wX_period_b21 P tc cl tr x1 x2 x3 (Lp2 (wX_period_b21 P tc cl tr x1 x2 x3) n) x4 g := hw
      unfold wX_period_b21 at hw
      refine lv_iload hx hb dX0_period_21 (lv_at hl 4 rfl) ?_
      refine lv_sipush (v := (1000 : Int32)) hx hb dX0_period_23 (by decide) ?_
      refine lv_icmp_gt (tgt := 53) hx hb dX0_period_26 (by decide) (fun hc => ?_) (fun hc => ?_)
      · replace hw := hw.1 hc
        clear hc
        refine lv_bipush (v := (-9 : Int32)) hx hb dX0_period_53 (by decide) ?_
        exact W.iret (v := (-9 : Int32)) hx hb hr (fun t ht hW => ⟨⟨(-9 : Int32), g, rfl, hw, by rw [ht]; exact hP, va_K.moved hW.alike hK, hD⟩, hS.F ht⟩) hS.2.2 dX0_period_55
      · replace hw := hw.2 hc
        clear hc
        refine lv_aload_n hx hb dX0_period_29 rfl (lv_at hl 0 rfl) ?_
        refine lv_iload_n hx hb dX0_period_30 rfl (lv_at hl 1 rfl) ?_
        refine lv_iload_n hx hb dX0_period_31 rfl (lv_at hl 3 rfl) ?_
        have hFc := va_free (wc := (XL h ad ca tc cl tr g)) hD hS hA [0, 1, 2, 3, 4, 5, 6, 7, 8, 9, 10] rfl
        refine va_callv (va_runV (As := [.int x1, .int x3]) (rest := []) ⟨hx, hb, hml, hown, hts⟩ (cX_turnDigits l dC dI h ad ca H.size tc cl tr g x1 x3 _ hw) (cwV 2 hts gX0_period_X0_turnDigits rfl rfl rfl (by decide +kernel) ⟨Nat.le_of_ble_eq_true rfl, Nat.le_of_ble_eq_true rfl⟩) ⟨fun a U g mk q => by obtain ⟨q0, q1, qP, qK, qD⟩ := q; exact ⟨q0, q1, qP, va_K.moved (u := U) (U := U.calling g mk a) (Vm.Alike.refl U.vm) qK, qD⟩, va_recv hK hP (ci := 0) (q0 := 0) rfl rfl, fun U hU hW => ⟨rfl, by rw [hU], by rw [hU]; exact hP, va_K.moved hW.alike hK, hD.weaken (fun _ _ _ _ => trivial)⟩⟩ rfl rfl hl.1 rfl (lv_room (Nat.le_of_ble_eq_true rfl)) dX0_period_32 ⟨Nat.zero_le _, Nat.zero_le _⟩) hS (fun q _ h => hFc q h) hFc (fun g_1 t H1 locs ht hvm hw hB hz1 hk1 hS => ?_)
        obtain ⟨hP1, hK1, hD1⟩ := hB
        rw [ht] at hP1
        have hP : va_P (dC, dI) vwCl (XL h ad ca tc cl tr g_1) H1 := hP1
        have hD : va_D A (XL h ad ca tc cl tr g_1) := hD1.weaken (fun _ _ _ h => hFc _ h)
        clear hP1 hK1 hD1 hFc hk1 hz1 hvm ht
        generalize H1 = H at hP hS ⊢
        try dsimp only at hw
        refine lv_aload_n hx hb dX0_period_35 rfl (lv_at hl 0 rfl) ?_
        refine lv_iload_n hx hb dX0_period_36 rfl (lv_at hl 1 rfl) ?_
        refine vp_callSi (W.runV (As := [.int x1]) (rest := []) ⟨hx, hb, hml, hown, hts⟩ (cX_numberOfDigits l dC dI h ad ca tc cl tr g_1 x1 _ hw) (cwV 1 hts gX0_period_X0_numberOfDigits rfl rfl rfl (by decide +kernel) ⟨Nat.le_of_ble_eq_true rfl, Nat.le_of_ble_eq_true rfl⟩) ⟨fun a U g mk q => by obtain ⟨q0, qP, qK⟩ := q; exact ⟨q0, qP, va_K.moved (u := U) (U := U.calling g mk a) (Vm.Alike.refl U.vm) qK⟩, va_recv hK hP (ci := 0) (q0 := 0) rfl rfl, fun U hU hW => ⟨rfl, by rw [hU]; exact hP, va_K.moved hW.alike hK⟩⟩ rfl rfl hl.1 rfl (lv_room (Nat.le_of_ble_eq_true rfl)) dX0_period_37 ⟨Nat.zero_le _, Nat.zero_le _⟩) (fun r_2 hw => ?_)
        try dsimp only at hw
        refine lv_iload_n hx hb dX0_period_40 rfl (lv_at hl 2 rfl) ?_
        refine lv_icmp_ne (tgt := 47) hx hb dX0_period_41 (by decide) (fun hc => ?_) (fun hc => ?_)
        · replace hw := hw.1 hc
          clear hc
          refine lv_iinc (v := (x4 + 1)) (lv' := [(4, .int ((x4 + 1))), (0, .ref h), (1, .int x1), (2, .int x2), (3, .int x3)]) hx hb dX0_period_47 hl (k := 4) rfl rfl (by decide) rfl (fun ls hl => ?_)
          refine lv_goto (tgt := 21) hx hb dX0_period_50 (by decide) ?_
          exact hB (x4 + 1) g_1 H locs ls hw hP hD hS (lv_sub hl [1, 2, 3, 4, 0] rfl)
        · replace hw := hw.2 hc
          clear hc
          refine lv_iload hx hb dX0_period_44 (lv_at hl 4 rfl) ?_
          exact W.iret (v := x4) hx hb hr (fun t ht hW => ⟨⟨x4, g_1, rfl, hw, by rw [ht]; exact hP, va_K.moved hW.alike hK, hD⟩, hS.F ht⟩) hS.2.2 dX0_period_46
  subst hargs
  unfold wX_period at hw
  have hl := lv_entry ([.ref h, .int x1, .int x2, .int x3]) (n := 5) (Nat.le_of_ble_eq_true rfl)
  rw [lg_entry_eq]
  generalize (lg_sl ([.ref h, .int x1, .int x2, .int x3]) ++ List.replicate (5 - (lg_sl ([.ref h, .int x1, .int x2, .int x3])).length) Slot.unset).toArray = ls at hl ⊢
  have hl : lv_has ls 5 [(0, .ref h), (1, .int x1), (2, .int x2), (3, .int x3)] := hl
  obtain ⟨H, hHe⟩ : ∃ z : Heap, z = s.heap := ⟨_, rfl⟩
  obtain ⟨locs, hLe⟩ : ∃ z : List Loc, z = [] := ⟨_, rfl⟩
  have hS : va_S A s.heap H locs := by rw [hHe, hLe]; exact hS
  have hP : va_P (dC, dI) vwCl (XL h ad ca tc cl tr g) H := by rw [hHe]; exact hP
  have hgo : W p l e (headSpec wsX0_period ({ frames := 3, cells := 0, slots := 0, locals := 69 })).room s m ([.ref h, .int x1, .int x2, .int x3] : List Value).toArray below meth c H locs 0 0 (MQ below (va_Qi (fun (r : Int32) (u : Sg) => P r u) (at_X1 dC dI A h ad ca tc cl tr) A) ([.ref h, .int x1, .int x2, .int x3] : List Value).toArray s 0 0 A) (F0 m 0 ls []) := by
    clear hHe hLe
    refine lv_iload_n hx hb dX0_period_0 rfl (lv_at hl 3 rfl) ?_
    refine vp_callSi (W.runS (As := [.int x3]) (rest := []) ⟨hx, hb, hml, hown, hts⟩ (cX_isTurnKind l x3 _ hw) (va_cwS 1 hts gX0_period_X0_isTurnKind rfl rfl rfl (by decide +kernel) ⟨Nat.le_of_ble_eq_true rfl, Nat.le_of_ble_eq_true rfl⟩) ⟨fun a U g mk q => q, fun U hU hW => ⟨rfl, trivial⟩⟩ rfl rfl hl.1 rfl (lv_room (Nat.le_of_ble_eq_true rfl)) dX0_period_1 ⟨Nat.zero_le _, Nat.zero_le _⟩) (fun r_3 hw => ?_)
    try dsimp only at hw
    refine lv_if_eq (tgt := 16) hx hb dX0_period_4 (by decide) (fun hc => ?_) (fun hc => ?_)
    · replace hw := hw.1 hc
      clear hc
      refine lv_iconst (v := (-1 : Int32)) hx hb dX0_period_16 (by decide) ?_
      exact W.iret (v := (-1 : Int32)) hx hb hr (fun t ht hW => ⟨⟨(-1 : Int32), g, rfl, hw, by rw [ht]; exact hP, va_K.moved hW.alike hK, hD⟩, hS.F ht⟩) hS.2.2 dX0_period_17
    · replace hw := hw.2 hc
      clear hc
      refine lv_aload_n hx hb dX0_period_7 rfl (lv_at hl 0 rfl) ?_
      refine lv_iload_n hx hb dX0_period_8 rfl (lv_at hl 1 rfl) ?_
      refine lv_iload_n hx hb dX0_period_9 rfl (lv_at hl 2 rfl) ?_
      have hFc := va_free (wc := (XL h ad ca tc cl tr g)) hD hS hA [0, 1, 2, 3, 4, 5, 6, 7, 8, 9, 10] rfl
      refine va_calli (va_runV (As := [.int x1, .int x2]) (rest := []) ⟨hx, hb, hml, hown, hts⟩ (cX_readFilling l dC dI h ad ca H.size tc cl tr g x1 x2 _ hw) (cwV 2 hts gX0_period_X0_readFilling rfl rfl rfl (by decide +kernel) ⟨Nat.le_of_ble_eq_true rfl, Nat.le_of_ble_eq_true rfl⟩) ⟨fun a U g mk q => by obtain ⟨q0, q1, qP, qK, qD⟩ := q; exact ⟨q0, q1, qP, va_K.moved (u := U) (U := U.calling g mk a) (Vm.Alike.refl U.vm) qK, qD⟩, va_recv hK hP (ci := 0) (q0 := 0) rfl rfl, fun U hU hW => ⟨rfl, by rw [hU], by rw [hU]; exact hP, va_K.moved hW.alike hK, hD.weaken (fun _ _ _ _ => trivial)⟩⟩ rfl rfl hl.1 rfl (lv_room (Nat.le_of_ble_eq_true rfl)) dX0_period_10 ⟨Nat.zero_le _, Nat.zero_le _⟩) hS (fun q _ h => hFc q h) hFc (fun r_4 g_5 t H1 locs ht hvm hw hB hz1 hk1 hS => ?_)
      obtain ⟨hP1, hK1, hD1⟩ := hB
      rw [ht] at hP1
      have hP : va_P (dC, dI) vwCl (XL h ad ca tc cl tr g_5) H1 := hP1
      have hD : va_D A (XL h ad ca tc cl tr g_5) := hD1.weaken (fun _ _ _ h => hFc _ h)
      clear hP1 hK1 hD1 hFc hk1 hz1 hvm ht
      generalize H1 = H at hP hS ⊢
      try dsimp only at hw
      refine lv_if_ne (tgt := 18) hx hb dX0_period_13 (by decide) (fun hc => ?_) (fun hc => ?_)
      · replace hw := hw.1 hc
        clear hc
        refine lv_iconst (v := (1 : Int32)) hx hb dX0_period_18 (by decide) ?_
        refine lv_istore (lv' := [(4, .int (1 : Int32)), (0, .ref h), (1, .int x1), (2, .int x2), (3, .int x3)]) hx hb dX0_period_19 hl (by decide) rfl (fun ls hl => ?_)
        obtain ⟨n_6, hw⟩ := hw
        exact lp_21 x1 x2 x3 n_6 (1 : Int32) g_5 H locs ls hw hP hD hS (lv_sub hl [1, 2, 3, 4, 0] rfl)
      · replace hw := hw.2 hc
        clear hc
        refine lv_iconst (v := (-1 : Int32)) hx hb dX0_period_16 (by decide) ?_
        exact W.iret (v := (-1 : Int32)) hx hb hr (fun t ht hW => ⟨⟨(-1 : Int32), g_5, rfl, hw, by rw [ht]; exact hP, va_K.moved hW.alike hK, hD⟩, hS.F ht⟩) hS.2.2 dX0_period_17
  rw [hHe, hLe] at hgo
  exact hgo
-- X0_countSizes
set_option maxHeartbeats 4000000 in
set_option maxRecDepth 100000 in
theorem cX_countSizes (l : Launch) (dC : Nat → ClassId) (dI : Nat → Nat → Nat) (h : Nat) (ad : Nat → Nat) (ca : Nat → ClassId) (sz : Nat) (tc cl : Int32) (tr : Int64) (g : Sg) (P : Sg → Prop) (hw : wX_countSizes P tc cl tr g) : Met l yX0_countSizes wsX0_countSizes ({ frames := 3, cells := 0, slots := 0, locals := 63 }) (va_Pc [.ref h] (fun U => U.heap.size = sz ∧ va_P (dC, dI) vwCl (XL h ad ca tc cl tr g) U.heap ∧ va_K (dC, dI) vwCl (XT ca) U ∧ va_D (fun _ => True) (XL h ad ca tc cl tr g))) (va_Qv (fun (u : Sg) => P u) (at_X1 dC dI (va_A (XL h ad ca tc cl tr g) sz) h ad ca tc cl tr) (va_A (XL h ad ca tc cl tr g) sz)) 0 0 (va_A (XL h ad ca tc cl tr g) sz) := by
  refine Met.ofW (cc := cX0_countSizes) (maxL := 2) (ret := none) (by decide) rfl ?_
  intro p e s m args below meth c s₁ B0 hml hv
  obtain ⟨hargs, hsz, hP, hK, hD0⟩ := hv
  have hx := B0.exec
  have hb := B0.bytes
  have hr := B0.returns
  have hts := atoms_spec (ws := wsX0_countSizes) B0.pre
  have hown : s.vm.findClass RX0 = some m.cls := findClass_of_methodNamed B0.named
  have hlocks := B0.notSynchronized
  have inw : ∀ w ∈ wsX00, w ∈ wsX0_countSizes := fun w h => List.mem_cons_of_mem _ (List.mem_append_right _ h)
  have f9 : (Cond.fieldLink RX0 9 "FlipHeaps" "thingCount" "I").before args s = true := hts _ (by decide +kernel)
  have f29 : (Cond.fieldLink RX0 29 "FlipHeaps" "sizes" "[I").before args s = true := hts _ (by decide +kernel)
  subst hsz
  have hD := hD0.self (sz := s.heap.size)
  generalize hAe : va_A (XL h ad ca tc cl tr g) s.heap.size = A at hD ⊢
  have hA : ∀ q : Nat, s.heap.size ≤ q → A q := fun q h => by rw [← hAe]; exact Or.inr h
  clear hAe hD0
  have hS : va_S A s.heap s.heap [] := va_S.rf
  have lp_2 : ∀ (K23 : Sg → Prop) (hK23 : ∀ (g : Sg) (H : Heap) (locs : List Loc) (ls : Array Slot), K23 g → va_P (dC, dI) vwCl (XL h ad ca tc cl tr g) H → va_D A (XL h ad ca tc cl tr g) → va_S A s.heap H locs → lv_has ls 2 [(0, .ref h)] → W p l e (headSpec wsX0_countSizes ({ frames := 3, cells := 0, slots := 0, locals := 63 })).room s m args below meth c H locs 0 0 (MQ below (va_Qv (fun (u : Sg) => P u) (at_X1 dC dI A h ad ca tc cl tr) A) args s 0 0 A) (F0 m 23 ls [])), ∀ (n : Nat) (x1 : Int32) (g : Sg) (H : Heap) (locs : List Loc) (ls : Array Slot), Lp2 (wX_countSizes_b2 P tc cl tr K23) n x1 g → va_P (dC, dI) vwCl (XL h ad ca tc cl tr g) H → va_D A (XL h ad ca tc cl tr g) → va_S A s.heap H locs → lv_has ls 2 [(0, .ref h), (1, .int x1)] → W p l e (headSpec wsX0_countSizes ({ frames := 3, cells := 0, slots := 0, locals := 63 })).room s m args below meth c H locs 0 0 (MQ below (va_Qv (fun (u : Sg) => P u) (at_X1 dC dI A h ad ca tc cl tr) A) args s 0 0 A) (F0 m 2 ls []) := by
    intro K23 hK23
    intro n
    induction n with
    | zero => intro x1 g H locs ls hw; exact False.elim hw
    | succ n hB =>
      intro x1 g H locs ls hw hP hD hS hl
      replace hw : wX_countSizes_b2 P tc cl tr K23 (Lp2 (wX_countSizes_b2 P tc cl tr K23) n) x1 g := hw
      unfold wX_countSizes_b2 at hw
      refine lv_iload_n hx hb dX0_countSizes_2 rfl (lv_at hl 1 rfl) ?_
      refine lv_aload_n hx hb dX0_countSizes_3 rfl (lv_at hl 0 rfl) ?_
      refine va_get (D := (dC, dI)) (ci := 0) (C := RX0) (T := TX0) (N := 13) hx hb hts inw hown hK hP 0 rfl rfl 0 (by decide) f9 (fun _ h9 => h9) rfl dX0_countSizes_4 ?_
      refine lv_icmp_gt (tgt := 23) hx hb dX0_countSizes_7 (by decide) (fun hc => ?_) (fun hc => ?_)
      · replace hw := hw.1 hc
        clear hc
        exact hK23 g H locs ls hw hP hD hS (lv_sub hl [0] rfl)
      · replace hw := hw.2 hc
        clear hc
        refine lv_aload_n hx hb dX0_countSizes_10 rfl (lv_at hl 0 rfl) ?_
        refine va_get (D := (dC, dI)) (ci := 0) (C := RX0) (T := TX0) (N := 13) hx hb hts inw hown hK hP 0 rfl rfl 8 (by decide) f29 (fun _ h9 => h9) rfl dX0_countSizes_11 ?_
        refine lv_iload_n hx hb dX0_countSizes_14 rfl (lv_at hl 1 rfl) ?_
        refine lv_iconst (v := (0 : Int32)) hx hb dX0_countSizes_15 (by decide) ?_
        obtain ⟨hin, hw⟩ := hw
        refine va_iast hx hb hK hP hD hS 6 5 rfl rfl hin dX0_countSizes_16 (fun H locs hP hD hS => ?_)
        obtain ⟨g_1, hg⟩ : ∃ z : Sg, z = up2 g 8 (x1).toNatClampNeg (0 : Int32) := ⟨_, rfl⟩
        replace hw := hw g_1 hg
        have hP : va_P (dC, dI) vwCl (XL h ad ca tc cl tr g_1) H := by rw [hg]; exact hP
        have hD : va_D A (XL h ad ca tc cl tr g_1) := by rw [hg]; exact hD
        clear hg
        refine lv_iinc (v := (x1 + 1)) (lv' := [(1, .int ((x1 + 1))), (0, .ref h)]) hx hb dX0_countSizes_17 hl (k := 1) rfl rfl (by decide) rfl (fun ls hl => ?_)
        refine lv_goto (tgt := 2) hx hb dX0_countSizes_20 (by decide) ?_
        exact hB (x1 + 1) g_1 H locs ls hw hP hD hS (lv_sub hl [1, 0] rfl)
  have lp_25 : ∀ (n : Nat) (x1 : Int32) (g : Sg) (H : Heap) (locs : List Loc) (ls : Array Slot), Lp2 (wX_countSizes_b25 P tc cl tr) n x1 g → va_P (dC, dI) vwCl (XL h ad ca tc cl tr g) H → va_D A (XL h ad ca tc cl tr g) → va_S A s.heap H locs → lv_has ls 2 [(0, .ref h), (1, .int x1)] → W p l e (headSpec wsX0_countSizes ({ frames := 3, cells := 0, slots := 0, locals := 63 })).room s m args below meth c H locs 0 0 (MQ below (va_Qv (fun (u : Sg) => P u) (at_X1 dC dI A h ad ca tc cl tr) A) args s 0 0 A) (F0 m 25 ls []) := by
    intro n
    induction n with
    | zero => intro x1 g H locs ls hw; exact False.elim hw
    | succ n hB =>
      intro x1 g H locs ls hw hP hD hS hl
      replace hw : wX_countSizes_b25 P tc cl tr (Lp2 (wX_countSizes_b25 P tc cl tr) n) x1 g := hw
      unfold wX_countSizes_b25 at hw
      refine lv_iload_n hx hb dX0_countSizes_25 rfl (lv_at hl 1 rfl) ?_
      refine lv_aload_n hx hb dX0_countSizes_26 rfl (lv_at hl 0 rfl) ?_
      refine vp_callSi (W.runV (As := []) (rest := [.int x1]) ⟨hx, hb, hml, hown, hts⟩ (cX_setCount l dC dI h ad ca tc cl tr g _ hw) (cwV 0 hts gX0_countSizes_X0_setCount rfl rfl rfl (by decide +kernel) ⟨Nat.le_of_ble_eq_true rfl, Nat.le_of_ble_eq_true rfl⟩) ⟨fun a U g mk q => by obtain ⟨q0, qP, qK⟩ := q; exact ⟨q0, qP, va_K.moved (u := U) (U := U.calling g mk a) (Vm.Alike.refl U.vm) qK⟩, va_recv hK hP (ci := 0) (q0 := 0) rfl rfl, fun U hU hW => ⟨rfl, by rw [hU]; exact hP, va_K.moved hW.alike hK⟩⟩ rfl rfl hl.1 rfl (lv_room (Nat.le_of_ble_eq_true rfl)) dX0_countSizes_27 ⟨Nat.zero_le _, Nat.zero_le _⟩) (fun r_2 hw => ?_)
      try dsimp only at hw
      refine lv_icmp_ge (tgt := 60) hx hb dX0_countSizes_30 (by decide) (fun hc => ?_) (fun hc => ?_)
      · replace hw := hw.1 hc
        clear hc
        exact W.vret hx hb hr (fun t ht hW => ⟨⟨g, rfl, hw, by rw [ht]; exact hP, va_K.moved hW.alike hK, hD⟩, hS.F ht⟩) hS.2.2 dX0_countSizes_60
      · replace hw := hw.2 hc
        clear hc
        refine lv_aload_n hx hb dX0_countSizes_33 rfl (lv_at hl 0 rfl) ?_
        refine lv_iload_n hx hb dX0_countSizes_34 rfl (lv_at hl 1 rfl) ?_
        refine vp_callSi (W.runV (As := [.int x1]) (rest := []) ⟨hx, hb, hml, hown, hts⟩ (cX_isHeap l dC dI h ad ca tc cl tr g x1 _ hw) (cwV 1 hts gX0_countSizes_X0_isHeap rfl rfl rfl (by decide +kernel) ⟨Nat.le_of_ble_eq_true rfl, Nat.le_of_ble_eq_true rfl⟩) ⟨fun a U g mk q => by obtain ⟨q0, qP, qK⟩ := q; exact ⟨q0, qP, va_K.moved (u := U) (U := U.calling g mk a) (Vm.Alike.refl U.vm) qK⟩, va_recv hK hP (ci := 0) (q0 := 0) rfl rfl, fun U hU hW => ⟨rfl, by rw [hU]; exact hP, va_K.moved hW.alike hK⟩⟩ rfl rfl hl.1 rfl (lv_room (Nat.le_of_ble_eq_true rfl)) dX0_countSizes_35 ⟨Nat.zero_le _, Nat.zero_le _⟩) (fun r_3 hw => ?_)
        try dsimp only at hw
        refine lv_if_eq (tgt := 54) hx hb dX0_countSizes_38 (by decide) (fun hc => ?_) (fun hc => ?_)
        · replace hw := hw.1 hc
          clear hc
          refine lv_iinc (v := (x1 + 1)) (lv' := [(1, .int ((x1 + 1))), (0, .ref h)]) hx hb dX0_countSizes_54 hl (k := 1) rfl rfl (by decide) rfl (fun ls hl => ?_)
          refine lv_goto (tgt := 25) hx hb dX0_countSizes_57 (by decide) ?_
          exact hB (x1 + 1) g H locs ls hw hP hD hS (lv_sub hl [1, 0] rfl)
        · replace hw := hw.2 hc
          clear hc
          refine lv_aload_n hx hb dX0_countSizes_41 rfl (lv_at hl 0 rfl) ?_
          refine va_get (D := (dC, dI)) (ci := 0) (C := RX0) (T := TX0) (N := 13) hx hb hts inw hown hK hP 0 rfl rfl 8 (by decide) f29 (fun _ h9 => h9) rfl dX0_countSizes_42 ?_
          refine lv_iload_n hx hb dX0_countSizes_45 rfl (lv_at hl 1 rfl) ?_
          refine vp_callSi (W.runS (As := [.int x1]) (rest := [.ref (ad 8)]) ⟨hx, hb, hml, hown, hts⟩ (cJ_bitCount l x1 _ hw) (va_cwS 1 hts gX0_countSizes_J6_bitCount_0f7a4 rfl rfl rfl (by decide +kernel) ⟨Nat.le_of_ble_eq_true rfl, Nat.le_of_ble_eq_true rfl⟩) ⟨fun a U g mk q => q, fun U hU hW => ⟨rfl, trivial⟩⟩ rfl rfl hl.1 rfl (lv_room (Nat.le_of_ble_eq_true rfl)) dX0_countSizes_46 ⟨Nat.zero_le _, Nat.zero_le _⟩) (fun r_4 hw => ?_)
          try dsimp only at hw
          refine lv_dup2_11 hx hb dX0_countSizes_49 rfl rfl ?_
          obtain ⟨hin, hw⟩ := hw
          refine va_iald hx hb hK hP 6 5 rfl rfl hin dX0_countSizes_50 ?_
          refine lv_iconst (v := (1 : Int32)) hx hb dX0_countSizes_51 (by decide) ?_
          refine lv_iadd hx hb dX0_countSizes_52 ?_
          obtain ⟨hin, hw⟩ := hw
          refine va_iast hx hb hK hP hD hS 6 5 rfl rfl hin dX0_countSizes_53 (fun H locs hP hD hS => ?_)
          obtain ⟨g_5, hg⟩ : ∃ z : Sg, z = up2 g 8 (r_4).toNatClampNeg ((g 8 (r_4).toNatClampNeg) + (1 : Int32)) := ⟨_, rfl⟩
          replace hw := hw g_5 hg
          have hP : va_P (dC, dI) vwCl (XL h ad ca tc cl tr g_5) H := by rw [hg]; exact hP
          have hD : va_D A (XL h ad ca tc cl tr g_5) := by rw [hg]; exact hD
          clear hg
          refine lv_iinc (v := (x1 + 1)) (lv' := [(1, .int ((x1 + 1))), (0, .ref h)]) hx hb dX0_countSizes_54 hl (k := 1) rfl rfl (by decide) rfl (fun ls hl => ?_)
          refine lv_goto (tgt := 25) hx hb dX0_countSizes_57 (by decide) ?_
          exact hB (x1 + 1) g_5 H locs ls hw hP hD hS (lv_sub hl [1, 0] rfl)
  subst hargs
  unfold wX_countSizes at hw
  have hl := lv_entry ([.ref h]) (n := 2) (Nat.le_of_ble_eq_true rfl)
  rw [lg_entry_eq]
  generalize (lg_sl ([.ref h]) ++ List.replicate (2 - (lg_sl ([.ref h])).length) Slot.unset).toArray = ls at hl ⊢
  have hl : lv_has ls 2 [(0, .ref h)] := hl
  obtain ⟨H, hHe⟩ : ∃ z : Heap, z = s.heap := ⟨_, rfl⟩
  obtain ⟨locs, hLe⟩ : ∃ z : List Loc, z = [] := ⟨_, rfl⟩
  have hS : va_S A s.heap H locs := by rw [hHe, hLe]; exact hS
  have hP : va_P (dC, dI) vwCl (XL h ad ca tc cl tr g) H := by rw [hHe]; exact hP
  have hgo : W p l e (headSpec wsX0_countSizes ({ frames := 3, cells := 0, slots := 0, locals := 63 })).room s m ([.ref h] : List Value).toArray below meth c H locs 0 0 (MQ below (va_Qv (fun (u : Sg) => P u) (at_X1 dC dI A h ad ca tc cl tr) A) ([.ref h] : List Value).toArray s 0 0 A) (F0 m 0 ls []) := by
    clear hHe hLe
    refine lv_iconst (v := (0 : Int32)) hx hb dX0_countSizes_0 (by decide) ?_
    refine lv_istore_n (lv' := [(1, .int (0 : Int32)), (0, .ref h)]) hx hb dX0_countSizes_1 rfl hl (by decide) rfl (fun ls hl => ?_)
    obtain ⟨n_8, hw⟩ := hw
    refine lp_2 _ ?_ n_8 (0 : Int32) g H locs ls hw hP hD hS (lv_sub hl [1, 0] rfl)
    · intro g_6 H locs ls hw hP hD hS hl
      try dsimp only at hw
      refine lv_iconst (v := (0 : Int32)) hx hb dX0_countSizes_23 (by decide) ?_
      refine lv_istore_n (lv' := [(1, .int (0 : Int32)), (0, .ref h)]) hx hb dX0_countSizes_24 rfl hl (by decide) rfl (fun ls hl => ?_)
      obtain ⟨n_7, hw⟩ := hw
      exact lp_25 n_7 (0 : Int32) g_6 H locs ls hw hP hD hS (lv_sub hl [1, 0] rfl)
  rw [hHe, hLe] at hgo
  exact hgo
-- X0_counts
set_option maxHeartbeats 4000000 in
set_option maxRecDepth 100000 in
theorem cX_counts (l : Launch) (dC : Nat → ClassId) (dI : Nat → Nat → Nat) (h : Nat) (ad : Nat → Nat) (ca : Nat → ClassId) (sz : Nat) (tc cl : Int32) (tr : Int64) (g : Sg) (x1 : Int32) (P : Int32 → Sg → Prop) (hw : wX_counts P tc cl tr g x1) : Met l yX0_counts wsX0_counts ({ frames := 4, cells := 0, slots := 0, locals := 84 }) (va_Pc [.ref h, .int x1] (fun U => U.heap.size = sz ∧ va_P (dC, dI) vwCl (XL h ad ca tc cl tr g) U.heap ∧ va_K (dC, dI) vwCl (XT ca) U ∧ va_D (fun _ => True) (XL h ad ca tc cl tr g))) (va_Qi (fun (r : Int32) (u : Sg) => P r u) (at_X1 dC dI (va_A (XL h ad ca tc cl tr g) sz) h ad ca tc cl tr) (va_A (XL h ad ca tc cl tr g) sz)) 0 0 (va_A (XL h ad ca tc cl tr g) sz) := by
  refine Met.ofW (cc := cX0_counts) (maxL := 2) (ret := (some .int)) (by decide) rfl ?_
  intro p e s m args below meth c s₁ B0 hml hv
  obtain ⟨hargs, hsz, hP, hK, hD0⟩ := hv
  have hx := B0.exec
  have hb := B0.bytes
  have hr := B0.returns
  have hts := atoms_spec (ws := wsX0_counts) B0.pre
  have hown : s.vm.findClass RX0 = some m.cls := findClass_of_methodNamed B0.named
  have hlocks := B0.notSynchronized
  have inw : ∀ w ∈ wsX00, w ∈ wsX0_counts := fun w h => List.mem_cons_of_mem _ (List.mem_append_right _ h)
  have f9 : (Cond.fieldLink RX0 9 "FlipHeaps" "thingCount" "I").before args s = true := hts _ (by decide +kernel)
  have f29 : (Cond.fieldLink RX0 29 "FlipHeaps" "sizes" "[I").before args s = true := hts _ (by decide +kernel)
  subst hsz
  have hD := hD0.self (sz := s.heap.size)
  generalize hAe : va_A (XL h ad ca tc cl tr g) s.heap.size = A at hD ⊢
  have hA : ∀ q : Nat, s.heap.size ≤ q → A q := fun q h => by rw [← hAe]; exact Or.inr h
  clear hAe hD0
  have hS : va_S A s.heap s.heap [] := va_S.rf
  subst hargs
  unfold wX_counts at hw
  have hl := lv_entry ([.ref h, .int x1]) (n := 2) (Nat.le_of_ble_eq_true rfl)
  rw [lg_entry_eq]
  generalize (lg_sl ([.ref h, .int x1]) ++ List.replicate (2 - (lg_sl ([.ref h, .int x1])).length) Slot.unset).toArray = ls at hl ⊢
  have hl : lv_has ls 2 [(0, .ref h), (1, .int x1)] := hl
  obtain ⟨H, hHe⟩ : ∃ z : Heap, z = s.heap := ⟨_, rfl⟩
  obtain ⟨locs, hLe⟩ : ∃ z : List Loc, z = [] := ⟨_, rfl⟩
  have hS : va_S A s.heap H locs := by rw [hHe, hLe]; exact hS
  have hP : va_P (dC, dI) vwCl (XL h ad ca tc cl tr g) H := by rw [hHe]; exact hP
  have hgo : W p l e (headSpec wsX0_counts ({ frames := 4, cells := 0, slots := 0, locals := 84 })).room s m ([.ref h, .int x1] : List Value).toArray below meth c H locs 0 0 (MQ below (va_Qi (fun (r : Int32) (u : Sg) => P r u) (at_X1 dC dI A h ad ca tc cl tr) A) ([.ref h, .int x1] : List Value).toArray s 0 0 A) (F0 m 0 ls []) := by
    clear hHe hLe
    refine lv_iload_n hx hb dX0_counts_0 rfl (lv_at hl 1 rfl) ?_
    refine lv_if_lt (tgt := 12) hx hb dX0_counts_1 (by decide) (fun hc => ?_) (fun hc => ?_)
    · replace hw := hw.1 hc
      clear hc
      refine lv_iconst (v := (-1 : Int32)) hx hb dX0_counts_12 (by decide) ?_
      exact W.iret (v := (-1 : Int32)) hx hb hr (fun t ht hW => ⟨⟨(-1 : Int32), g, rfl, hw, by rw [ht]; exact hP, va_K.moved hW.alike hK, hD⟩, hS.F ht⟩) hS.2.2 dX0_counts_13
    · replace hw := hw.2 hc
      clear hc
      refine lv_iload_n hx hb dX0_counts_4 rfl (lv_at hl 1 rfl) ?_
      refine lv_aload_n hx hb dX0_counts_5 rfl (lv_at hl 0 rfl) ?_
      refine va_get (D := (dC, dI)) (ci := 0) (C := RX0) (T := TX0) (N := 13) hx hb hts inw hown hK hP 0 rfl rfl 0 (by decide) f9 (fun _ h9 => h9) rfl dX0_counts_6 ?_
      refine lv_icmp_le (tgt := 14) hx hb dX0_counts_9 (by decide) (fun hc => ?_) (fun hc => ?_)
      · replace hw := hw.1 hc
        clear hc
        refine lv_aload_n hx hb dX0_counts_14 rfl (lv_at hl 0 rfl) ?_
        have hFc := va_free (wc := (XL h ad ca tc cl tr g)) hD hS hA [0, 1, 2, 3, 4, 5, 6, 7, 8, 9, 10] rfl
        refine va_callv (va_runV (As := []) (rest := []) ⟨hx, hb, hml, hown, hts⟩ (cX_countSizes l dC dI h ad ca H.size tc cl tr g _ hw) (cwV 0 hts gX0_counts_X0_countSizes rfl rfl rfl (by decide +kernel) ⟨Nat.le_of_ble_eq_true rfl, Nat.le_of_ble_eq_true rfl⟩) ⟨fun a U g mk q => by obtain ⟨q0, q1, qP, qK, qD⟩ := q; exact ⟨q0, q1, qP, va_K.moved (u := U) (U := U.calling g mk a) (Vm.Alike.refl U.vm) qK, qD⟩, va_recv hK hP (ci := 0) (q0 := 0) rfl rfl, fun U hU hW => ⟨rfl, by rw [hU], by rw [hU]; exact hP, va_K.moved hW.alike hK, hD.weaken (fun _ _ _ _ => trivial)⟩⟩ rfl rfl hl.1 rfl (lv_room (Nat.le_of_ble_eq_true rfl)) dX0_counts_15 ⟨Nat.zero_le _, Nat.zero_le _⟩) hS (fun q _ h => hFc q h) hFc (fun g_1 t H1 locs ht hvm hw hB hz1 hk1 hS => ?_)
        obtain ⟨hP1, hK1, hD1⟩ := hB
        rw [ht] at hP1
        have hP : va_P (dC, dI) vwCl (XL h ad ca tc cl tr g_1) H1 := hP1
        have hD : va_D A (XL h ad ca tc cl tr g_1) := hD1.weaken (fun _ _ _ h => hFc _ h)
        clear hP1 hK1 hD1 hFc hk1 hz1 hvm ht
        generalize H1 = H at hP hS ⊢
        try dsimp only at hw
        refine lv_aload_n hx hb dX0_counts_18 rfl (lv_at hl 0 rfl) ?_
        refine va_get (D := (dC, dI)) (ci := 0) (C := RX0) (T := TX0) (N := 13) hx hb hts inw hown hK hP 0 rfl rfl 8 (by decide) f29 (fun _ h9 => h9) rfl dX0_counts_19 ?_
        refine lv_iload_n hx hb dX0_counts_22 rfl (lv_at hl 1 rfl) ?_
        obtain ⟨hin, hw⟩ := hw
        refine va_iald hx hb hK hP 6 5 rfl rfl hin dX0_counts_23 ?_
        exact W.iret (v := (g_1 8 (x1).toNatClampNeg)) hx hb hr (fun t ht hW => ⟨⟨(g_1 8 (x1).toNatClampNeg), g_1, rfl, hw, by rw [ht]; exact hP, va_K.moved hW.alike hK, hD⟩, hS.F ht⟩) hS.2.2 dX0_counts_24
      · replace hw := hw.2 hc
        clear hc
        refine lv_iconst (v := (-1 : Int32)) hx hb dX0_counts_12 (by decide) ?_
        exact W.iret (v := (-1 : Int32)) hx hb hr (fun t ht hW => ⟨⟨(-1 : Int32), g, rfl, hw, by rw [ht]; exact hP, va_K.moved hW.alike hK, hD⟩, hS.F ht⟩) hS.2.2 dX0_counts_13
  rw [hHe, hLe] at hgo
  exact hgo
-- X0_sumAtRoot
set_option maxHeartbeats 4000000 in
set_option maxRecDepth 100000 in
theorem cX_sumAtRoot (l : Launch) (dC : Nat → ClassId) (dI : Nat → Nat → Nat) (h : Nat) (ad : Nat → Nat) (ca : Nat → ClassId) (sz : Nat) (tc cl : Int32) (tr : Int64) (g : Sg) (x1 : Int32) (x2 : Int32) (P : Int32 → Sg → Prop) (hw : wX_sumAtRoot P tc cl tr g x1 x2) : Met l yX0_sumAtRoot wsX0_sumAtRoot ({ frames := 4, cells := 0, slots := 0, locals := 84 }) (va_Pc [.ref h, .int x1, .int x2] (fun U => U.heap.size = sz ∧ va_P (dC, dI) vwCl (XL h ad ca tc cl tr g) U.heap ∧ va_K (dC, dI) vwCl (XT ca) U ∧ va_D (fun _ => True) (XL h ad ca tc cl tr g))) (va_Qi (fun (r : Int32) (u : Sg) => P r u) (at_X1 dC dI (va_A (XL h ad ca tc cl tr g) sz) h ad ca tc cl tr) (va_A (XL h ad ca tc cl tr g) sz)) 0 0 (va_A (XL h ad ca tc cl tr g) sz) := by
  refine Met.ofW (cc := cX0_sumAtRoot) (maxL := 7) (ret := (some .int)) (by decide) rfl ?_
  intro p e s m args below meth c s₁ B0 hml hv
  obtain ⟨hargs, hsz, hP, hK, hD0⟩ := hv
  have hx := B0.exec
  have hb := B0.bytes
  have hr := B0.returns
  have hts := atoms_spec (ws := wsX0_sumAtRoot) B0.pre
  have hown : s.vm.findClass RX0 = some m.cls := findClass_of_methodNamed B0.named
  have hlocks := B0.notSynchronized
  have inw : ∀ w ∈ wsX00, w ∈ wsX0_sumAtRoot := fun w h => List.mem_cons_of_mem _ (List.mem_append_right _ h)
  have f9 : (Cond.fieldLink RX0 9 "FlipHeaps" "thingCount" "I").before args s = true := hts _ (by decide +kernel)
  have f29 : (Cond.fieldLink RX0 29 "FlipHeaps" "sizes" "[I").before args s = true := hts _ (by decide +kernel)
  have k56 : (Cond.constant RX0 56 (-1000000)).before args s = true := hts _ (by decide +kernel)
  subst hsz
  have hD := hD0.self (sz := s.heap.size)
  generalize hAe : va_A (XL h ad ca tc cl tr g) s.heap.size = A at hD ⊢
  have hA : ∀ q : Nat, s.heap.size ≤ q → A q := fun q h => by rw [← hAe]; exact Or.inr h
  clear hAe hD0
  have hS : va_S A s.heap s.heap [] := va_S.rf
  have lp_15 : ∀ (x1 : Int32) (x2 : Int32) (K49 : Int32 → Int32 → Sg → Prop) (hK49 : ∀ (x3 : Int32) (x4 : Int32) (g : Sg) (H : Heap) (locs : List Loc) (ls : Array Slot), K49 x3 x4 g → va_P (dC, dI) vwCl (XL h ad ca tc cl tr g) H → va_D A (XL h ad ca tc cl tr g) → va_S A s.heap H locs → lv_has ls 7 [(0, .ref h), (1, .int x1), (3, .int x3), (4, .int x4)] → W p l e (headSpec wsX0_sumAtRoot ({ frames := 4, cells := 0, slots := 0, locals := 84 })).room s m args below meth c H locs 0 0 (MQ below (va_Qi (fun (r : Int32) (u : Sg) => P r u) (at_X1 dC dI A h ad ca tc cl tr) A) args s 0 0 A) (F0 m 49 ls [])), ∀ (n : Nat) (x3 : Int32) (x4 : Int32) (x5 : Int32) (g : Sg) (H : Heap) (locs : List Loc) (ls : Array Slot), Lp4 (wX_sumAtRoot_b15 P tc cl tr x1 x2 K49) n x3 x4 x5 g → va_P (dC, dI) vwCl (XL h ad ca tc cl tr g) H → va_D A (XL h ad ca tc cl tr g) → va_S A s.heap H locs → lv_has ls 7 [(0, .ref h), (1, .int x1), (2, .int x2), (3, .int x3), (4, .int x4), (5, .int x5)] → W p l e (headSpec wsX0_sumAtRoot ({ frames := 4, cells := 0, slots := 0, locals := 84 })).room s m args below meth c H locs 0 0 (MQ below (va_Qi (fun (r : Int32) (u : Sg) => P r u) (at_X1 dC dI A h ad ca tc cl tr) A) args s 0 0 A) (F0 m 15 ls []) := by
    intro x1 x2 K49 hK49
    intro n
    induction n with
    | zero => intro x3 x4 x5 g H locs ls hw; exact False.elim hw
    | succ n hB =>
      intro x3 x4 x5 g H locs ls hw hP hD hS hl
      replace hw : wX_sumAtRoot_b15 P tc cl tr x1 x2 K49 (Lp4 (wX_sumAtRoot_b15 P tc cl tr x1 x2 K49) n) x3 x4 x5 g := hw
      unfold wX_sumAtRoot_b15 at hw
      refine lv_iload hx hb dX0_sumAtRoot_15 (lv_at hl 5 rfl) ?_
      refine lv_if_lt (tgt := 49) hx hb dX0_sumAtRoot_17 (by decide) (fun hc => ?_) (fun hc => ?_)
      · replace hw := hw.1 hc
        clear hc
        exact hK49 x3 x4 g H locs ls hw hP hD hS (lv_sub hl [0, 1, 3, 4] rfl)
      · replace hw := hw.2 hc
        clear hc
        refine lv_iload_n hx hb dX0_sumAtRoot_20 rfl (lv_at hl 3 rfl) ?_
        refine lv_iload_n hx hb dX0_sumAtRoot_21 rfl (lv_at hl 2 rfl) ?_
        refine lv_iload hx hb dX0_sumAtRoot_22 (lv_at hl 4 rfl) ?_
        refine lv_imul hx hb dX0_sumAtRoot_24 ?_
        refine lv_iadd hx hb dX0_sumAtRoot_25 ?_
        refine lv_topi (fun x6_1 hv => ?_)
        replace hw := hw x6_1 hv
        clear hv
        refine lv_istore (lv' := [(6, .int x6_1), (0, .ref h), (1, .int x1), (2, .int x2), (3, .int x3), (4, .int x4), (5, .int x5)]) hx hb dX0_sumAtRoot_26 hl (by decide) rfl (fun ls hl => ?_)
        refine lv_aload_n hx hb dX0_sumAtRoot_28 rfl (lv_at hl 1 rfl) ?_
        refine va_get (D := (dC, dI)) (ci := 0) (C := RX0) (T := TX0) (N := 13) hx hb hts inw hown hK hP 0 rfl rfl 8 (by decide) f29 (fun _ h9 => h9) rfl dX0_sumAtRoot_29 ?_
        refine lv_iload hx hb dX0_sumAtRoot_32 (lv_at hl 6 rfl) ?_
        obtain ⟨hin, hw⟩ := hw
        refine va_iald hx hb hK hP 6 5 rfl rfl hin dX0_sumAtRoot_34 ?_
        refine lv_iload hx hb dX0_sumAtRoot_35 (lv_at hl 5 rfl) ?_
        refine lv_isub hx hb dX0_sumAtRoot_37 ?_
        refine lv_topi (fun x3_2 hv => ?_)
        replace hw := hw x3_2 hv
        clear hv
        refine lv_istore_n (lv' := [(3, .int x3_2), (6, .int x6_1), (0, .ref h), (1, .int x1), (2, .int x2), (4, .int x4), (5, .int x5)]) hx hb dX0_sumAtRoot_38 rfl hl (by decide) rfl (fun ls hl => ?_)
        refine lv_iload hx hb dX0_sumAtRoot_39 (lv_at hl 1 rfl) ?_
        refine lv_istore (lv' := [(4, .int x6_1), (3, .int x3_2), (6, .int x6_1), (0, .ref h), (1, .int x1), (2, .int x2), (5, .int x5)]) hx hb dX0_sumAtRoot_41 hl (by decide) rfl (fun ls hl => ?_)
        refine lv_iinc (v := (x5 + (-1))) (lv' := [(5, .int ((x5 + (-1)))), (4, .int x6_1), (3, .int x3_2), (6, .int x6_1), (0, .ref h), (1, .int x1), (2, .int x2)]) hx hb dX0_sumAtRoot_43 hl (k := 6) rfl rfl (by decide) rfl (fun ls hl => ?_)
        refine lv_goto (tgt := 15) hx hb dX0_sumAtRoot_46 (by decide) ?_
        exact hB x3_2 x6_1 (x5 + (-1)) g H locs ls hw hP hD hS (lv_sub hl [4, 5, 6, 2, 1, 0] rfl)
  subst hargs
  unfold wX_sumAtRoot at hw
  have hl := lv_entry ([.ref h, .int x1, .int x2]) (n := 7) (Nat.le_of_ble_eq_true rfl)
  rw [lg_entry_eq]
  generalize (lg_sl ([.ref h, .int x1, .int x2]) ++ List.replicate (7 - (lg_sl ([.ref h, .int x1, .int x2])).length) Slot.unset).toArray = ls at hl ⊢
  have hl : lv_has ls 7 [(0, .ref h), (1, .int x1), (2, .int x2)] := hl
  obtain ⟨H, hHe⟩ : ∃ z : Heap, z = s.heap := ⟨_, rfl⟩
  obtain ⟨locs, hLe⟩ : ∃ z : List Loc, z = [] := ⟨_, rfl⟩
  have hS : va_S A s.heap H locs := by rw [hHe, hLe]; exact hS
  have hP : va_P (dC, dI) vwCl (XL h ad ca tc cl tr g) H := by rw [hHe]; exact hP
  have hgo : W p l e (headSpec wsX0_sumAtRoot ({ frames := 4, cells := 0, slots := 0, locals := 84 })).room s m ([.ref h, .int x1, .int x2] : List Value).toArray below meth c H locs 0 0 (MQ below (va_Qi (fun (r : Int32) (u : Sg) => P r u) (at_X1 dC dI A h ad ca tc cl tr) A) ([.ref h, .int x1, .int x2] : List Value).toArray s 0 0 A) (F0 m 0 ls []) := by
    clear hHe hLe
    refine lv_aload_n hx hb dX0_sumAtRoot_0 rfl (lv_at hl 0 rfl) ?_
    have hFc := va_free (wc := (XL h ad ca tc cl tr g)) hD hS hA [0, 1, 2, 3, 4, 5, 6, 7, 8, 9, 10] rfl
    refine va_callv (va_runV (As := []) (rest := []) ⟨hx, hb, hml, hown, hts⟩ (cX_countSizes l dC dI h ad ca H.size tc cl tr g _ hw) (cwV 0 hts gX0_sumAtRoot_X0_countSizes rfl rfl rfl (by decide +kernel) ⟨Nat.le_of_ble_eq_true rfl, Nat.le_of_ble_eq_true rfl⟩) ⟨fun a U g mk q => by obtain ⟨q0, q1, qP, qK, qD⟩ := q; exact ⟨q0, q1, qP, va_K.moved (u := U) (U := U.calling g mk a) (Vm.Alike.refl U.vm) qK, qD⟩, va_recv hK hP (ci := 0) (q0 := 0) rfl rfl, fun U hU hW => ⟨rfl, by rw [hU], by rw [hU]; exact hP, va_K.moved hW.alike hK, hD.weaken (fun _ _ _ _ => trivial)⟩⟩ rfl rfl hl.1 rfl (lv_room (Nat.le_of_ble_eq_true rfl)) dX0_sumAtRoot_1 ⟨Nat.zero_le _, Nat.zero_le _⟩) hS (fun q _ h => hFc q h) hFc (fun g_3 t H1 locs ht hvm hw hB hz1 hk1 hS => ?_)
    obtain ⟨hP1, hK1, hD1⟩ := hB
    rw [ht] at hP1
    have hP : va_P (dC, dI) vwCl (XL h ad ca tc cl tr g_3) H1 := hP1
    have hD : va_D A (XL h ad ca tc cl tr g_3) := hD1.weaken (fun _ _ _ h => hFc _ h)
    clear hP1 hK1 hD1 hFc hk1 hz1 hvm ht
    generalize H1 = H at hP hS ⊢
    try dsimp only at hw
    refine lv_iconst (v := (0 : Int32)) hx hb dX0_sumAtRoot_4 (by decide) ?_
    refine lv_istore_n (lv' := [(3, .int (0 : Int32)), (0, .ref h), (1, .int x1), (2, .int x2)]) hx hb dX0_sumAtRoot_5 rfl hl (by decide) rfl (fun ls hl => ?_)
    refine lv_iconst (v := (0 : Int32)) hx hb dX0_sumAtRoot_6 (by decide) ?_
    refine lv_istore (lv' := [(4, .int (0 : Int32)), (3, .int (0 : Int32)), (0, .ref h), (1, .int x1), (2, .int x2)]) hx hb dX0_sumAtRoot_7 hl (by decide) rfl (fun ls hl => ?_)
    refine lv_aload_n hx hb dX0_sumAtRoot_9 rfl (lv_at hl 2 rfl) ?_
    refine va_get (D := (dC, dI)) (ci := 0) (C := RX0) (T := TX0) (N := 13) hx hb hts inw hown hK hP 0 rfl rfl 0 (by decide) f9 (fun _ h9 => h9) rfl dX0_sumAtRoot_10 ?_
    refine lv_istore (lv' := [(5, .int tc), (4, .int (0 : Int32)), (3, .int (0 : Int32)), (0, .ref h), (1, .int x1), (2, .int x2)]) hx hb dX0_sumAtRoot_13 hl (by decide) rfl (fun ls hl => ?_)
    obtain ⟨n_7, hw⟩ := hw
    refine lp_15 x1 x2 _ ?_ n_7 (0 : Int32) (0 : Int32) tc g_3 H locs ls hw hP hD hS (lv_sub hl [3, 4, 5, 2, 1, 0] rfl)
    · intro x3_4 x4_5 g_6 H locs ls hw hP hD hS hl
      try dsimp only at hw
      refine lv_iload_n hx hb dX0_sumAtRoot_49 rfl (lv_at hl 1 rfl) ?_
      refine lv_iconst (v := (1 : Int32)) hx hb dX0_sumAtRoot_50 (by decide) ?_
      refine lv_icmp_ne (tgt := 59) hx hb dX0_sumAtRoot_51 (by decide) (fun hc => ?_) (fun hc => ?_)
      · replace hw := hw.1 hc
        clear hc
        refine lv_iload_n hx hb dX0_sumAtRoot_59 rfl (lv_at hl 1 rfl) ?_
        refine lv_iconst (v := (2 : Int32)) hx hb dX0_sumAtRoot_60 (by decide) ?_
        refine lv_icmp_ne (tgt := 69) hx hb dX0_sumAtRoot_61 (by decide) (fun hc => ?_) (fun hc => ?_)
        · replace hw := hw.1 hc
          clear hc
          refine lv_iload hx hb dX0_sumAtRoot_69 (lv_at hl 3 rfl) ?_
          refine lv_if_ne (tgt := 78) hx hb dX0_sumAtRoot_71 (by decide) (fun hc => ?_) (fun hc => ?_)
          · replace hw := hw.1 hc
            clear hc
            refine lv_ldc (v := (-1000000 : Int32)) hx hb hown k56 dX0_sumAtRoot_78 ?_
            exact W.iret (v := (-1000000 : Int32)) hx hb hr (fun t ht hW => ⟨⟨(-1000000 : Int32), g_6, rfl, hw, by rw [ht]; exact hP, va_K.moved hW.alike hK, hD⟩, hS.F ht⟩) hS.2.2 dX0_sumAtRoot_80
          · replace hw := hw.2 hc
            clear hc
            refine lv_iload_n hx hb dX0_sumAtRoot_74 rfl (lv_at hl 2 rfl) ?_
            refine lv_goto (tgt := 80) hx hb dX0_sumAtRoot_75 (by decide) ?_
            exact W.iret (v := x3_4) hx hb hr (fun t ht hW => ⟨⟨x3_4, g_6, rfl, hw, by rw [ht]; exact hP, va_K.moved hW.alike hK, hD⟩, hS.F ht⟩) hS.2.2 dX0_sumAtRoot_80
        · replace hw := hw.2 hc
          clear hc
          refine lv_iload_n hx hb dX0_sumAtRoot_64 rfl (lv_at hl 2 rfl) ?_
          refine lv_iload hx hb dX0_sumAtRoot_65 (lv_at hl 3 rfl) ?_
          refine lv_isub hx hb dX0_sumAtRoot_67 ?_
          exact W.iret (v := (x3_4 - x4_5)) hx hb hr (fun t ht hW => ⟨⟨(x3_4 - x4_5), g_6, rfl, hw, by rw [ht]; exact hP, va_K.moved hW.alike hK, hD⟩, hS.F ht⟩) hS.2.2 dX0_sumAtRoot_68
      · replace hw := hw.2 hc
        clear hc
        refine lv_iload_n hx hb dX0_sumAtRoot_54 rfl (lv_at hl 2 rfl) ?_
        refine lv_iload hx hb dX0_sumAtRoot_55 (lv_at hl 3 rfl) ?_
        refine lv_iadd hx hb dX0_sumAtRoot_57 ?_
        exact W.iret (v := (x3_4 + x4_5)) hx hb hr (fun t ht hW => ⟨⟨(x3_4 + x4_5), g_6, rfl, hw, by rw [ht]; exact hP, va_K.moved hW.alike hK, hD⟩, hS.F ht⟩) hS.2.2 dX0_sumAtRoot_58
  rw [hHe, hLe] at hgo
  exact hgo
-- X0_at
set_option maxHeartbeats 4000000 in
set_option maxRecDepth 100000 in
theorem cX_at (l : Launch) (dC : Nat → ClassId) (dI : Nat → Nat → Nat) (h : Nat) (ad : Nat → Nat) (ca : Nat → ClassId) (sz : Nat) (tc cl : Int32) (tr : Int64) (g : Sg) (x1 : Int32) (P : Int32 → Sg → Prop) (hw : wX_at P tc cl tr g x1) : Met l yX0_at wsX0_at ({ frames := 5, cells := 0, slots := 0, locals := 110 }) (va_Pc [.ref h, .int x1] (fun U => U.heap.size = sz ∧ va_P (dC, dI) vwCl (XL h ad ca tc cl tr g) U.heap ∧ va_K (dC, dI) vwCl (XT ca) U ∧ va_D (fun _ => True) (XL h ad ca tc cl tr g))) (va_Qi (fun (r : Int32) (u : Sg) => P r u) (at_X1 dC dI (va_A (XL h ad ca tc cl tr g) sz) h ad ca tc cl tr) (va_A (XL h ad ca tc cl tr g) sz)) 0 0 (va_A (XL h ad ca tc cl tr g) sz) := by
  refine Met.ofW (cc := cX0_at) (maxL := 2) (ret := (some .int)) (by decide) rfl ?_
  intro p e s m args below meth c s₁ B0 hml hv
  obtain ⟨hargs, hsz, hP, hK, hD0⟩ := hv
  have hx := B0.exec
  have hb := B0.bytes
  have hr := B0.returns
  have hts := atoms_spec (ws := wsX0_at) B0.pre
  have hown : s.vm.findClass RX0 = some m.cls := findClass_of_methodNamed B0.named
  have hlocks := B0.notSynchronized
  have inw : ∀ w ∈ wsX00, w ∈ wsX0_at := fun w h => List.mem_cons_of_mem _ (List.mem_append_right _ h)
  have k143 : (Cond.constant RX0 143 (-1000001)).before args s = true := hts _ (by decide +kernel)
  subst hsz
  have hD := hD0.self (sz := s.heap.size)
  generalize hAe : va_A (XL h ad ca tc cl tr g) s.heap.size = A at hD ⊢
  have hA : ∀ q : Nat, s.heap.size ≤ q → A q := fun q h => by rw [← hAe]; exact Or.inr h
  clear hAe hD0
  have hS : va_S A s.heap s.heap [] := va_S.rf
  subst hargs
  unfold wX_at at hw
  have hl := lv_entry ([.ref h, .int x1]) (n := 2) (Nat.le_of_ble_eq_true rfl)
  rw [lg_entry_eq]
  generalize (lg_sl ([.ref h, .int x1]) ++ List.replicate (2 - (lg_sl ([.ref h, .int x1])).length) Slot.unset).toArray = ls at hl ⊢
  have hl : lv_has ls 2 [(0, .ref h), (1, .int x1)] := hl
  obtain ⟨H, hHe⟩ : ∃ z : Heap, z = s.heap := ⟨_, rfl⟩
  obtain ⟨locs, hLe⟩ : ∃ z : List Loc, z = [] := ⟨_, rfl⟩
  have hS : va_S A s.heap H locs := by rw [hHe, hLe]; exact hS
  have hP : va_P (dC, dI) vwCl (XL h ad ca tc cl tr g) H := by rw [hHe]; exact hP
  have hgo : W p l e (headSpec wsX0_at ({ frames := 5, cells := 0, slots := 0, locals := 110 })).room s m ([.ref h, .int x1] : List Value).toArray below meth c H locs 0 0 (MQ below (va_Qi (fun (r : Int32) (u : Sg) => P r u) (at_X1 dC dI A h ad ca tc cl tr) A) ([.ref h, .int x1] : List Value).toArray s 0 0 A) (F0 m 0 ls []) := by
    clear hHe hLe
    refine lv_iload_n hx hb dX0_at_0 rfl (lv_at hl 1 rfl) ?_
    by_cases hc0 : x1 = 1
    · replace hw := hw.1 hc0
      refine lv_tableIn (off := 39) (tgt := 40) hx hb dX0_at_1 (by rw [hc0]; decide) (by rw [hc0]; decide) (by rw [hc0]; rfl) (by decide) ?_
      refine lv_aload_n hx hb dX0_at_40 rfl (lv_at hl 0 rfl) ?_
      refine lv_iload_n hx hb dX0_at_41 rfl (lv_at hl 1 rfl) ?_
      refine lv_iconst (v := (2 : Int32)) hx hb dX0_at_42 (by decide) ?_
      have hFc := va_free (wc := (XL h ad ca tc cl tr g)) hD hS hA [0, 1, 2, 3, 4, 5, 6, 7, 8, 9, 10] rfl
      refine va_calli (va_runV (As := [.int x1, .int (2 : Int32)]) (rest := []) ⟨hx, hb, hml, hown, hts⟩ (cX_sumAtRoot l dC dI h ad ca H.size tc cl tr g x1 (2 : Int32) _ hw) (cwV 2 hts gX0_at_X0_sumAtRoot rfl rfl rfl (by decide +kernel) ⟨Nat.le_of_ble_eq_true rfl, Nat.le_of_ble_eq_true rfl⟩) ⟨fun a U g mk q => by obtain ⟨q0, q1, qP, qK, qD⟩ := q; exact ⟨q0, q1, qP, va_K.moved (u := U) (U := U.calling g mk a) (Vm.Alike.refl U.vm) qK, qD⟩, va_recv hK hP (ci := 0) (q0 := 0) rfl rfl, fun U hU hW => ⟨rfl, by rw [hU], by rw [hU]; exact hP, va_K.moved hW.alike hK, hD.weaken (fun _ _ _ _ => trivial)⟩⟩ rfl rfl hl.1 rfl (lv_room (Nat.le_of_ble_eq_true rfl)) dX0_at_43 ⟨Nat.zero_le _, Nat.zero_le _⟩) hS (fun q _ h => hFc q h) hFc (fun r_1 g_2 t H1 locs ht hvm hw hB hz1 hk1 hS => ?_)
      obtain ⟨hP1, hK1, hD1⟩ := hB
      rw [ht] at hP1
      have hP : va_P (dC, dI) vwCl (XL h ad ca tc cl tr g_2) H1 := hP1
      have hD : va_D A (XL h ad ca tc cl tr g_2) := hD1.weaken (fun _ _ _ h => hFc _ h)
      clear hP1 hK1 hD1 hFc hk1 hz1 hvm ht
      generalize H1 = H at hP hS ⊢
      try dsimp only at hw
      exact W.iret (v := r_1) hx hb hr (fun t ht hW => ⟨⟨r_1, g_2, rfl, hw, by rw [ht]; exact hP, va_K.moved hW.alike hK, hD⟩, hS.F ht⟩) hS.2.2 dX0_at_46
    by_cases hc1 : x1 = 2
    · replace hw := hw.2.1 hc1
      refine lv_tableIn (off := 46) (tgt := 47) hx hb dX0_at_1 (by rw [hc1]; decide) (by rw [hc1]; decide) (by rw [hc1]; rfl) (by decide) ?_
      refine lv_aload_n hx hb dX0_at_47 rfl (lv_at hl 0 rfl) ?_
      refine lv_iload_n hx hb dX0_at_48 rfl (lv_at hl 1 rfl) ?_
      refine lv_bipush (v := (-2 : Int32)) hx hb dX0_at_49 (by decide) ?_
      have hFc := va_free (wc := (XL h ad ca tc cl tr g)) hD hS hA [0, 1, 2, 3, 4, 5, 6, 7, 8, 9, 10] rfl
      refine va_calli (va_runV (As := [.int x1, .int (-2 : Int32)]) (rest := []) ⟨hx, hb, hml, hown, hts⟩ (cX_sumAtRoot l dC dI h ad ca H.size tc cl tr g x1 (-2 : Int32) _ hw) (cwV 2 hts gX0_at_X0_sumAtRoot rfl rfl rfl (by decide +kernel) ⟨Nat.le_of_ble_eq_true rfl, Nat.le_of_ble_eq_true rfl⟩) ⟨fun a U g mk q => by obtain ⟨q0, q1, qP, qK, qD⟩ := q; exact ⟨q0, q1, qP, va_K.moved (u := U) (U := U.calling g mk a) (Vm.Alike.refl U.vm) qK, qD⟩, va_recv hK hP (ci := 0) (q0 := 0) rfl rfl, fun U hU hW => ⟨rfl, by rw [hU], by rw [hU]; exact hP, va_K.moved hW.alike hK, hD.weaken (fun _ _ _ _ => trivial)⟩⟩ rfl rfl hl.1 rfl (lv_room (Nat.le_of_ble_eq_true rfl)) dX0_at_51 ⟨Nat.zero_le _, Nat.zero_le _⟩) hS (fun q _ h => hFc q h) hFc (fun r_3 g_4 t H1 locs ht hvm hw hB hz1 hk1 hS => ?_)
      obtain ⟨hP1, hK1, hD1⟩ := hB
      rw [ht] at hP1
      have hP : va_P (dC, dI) vwCl (XL h ad ca tc cl tr g_4) H1 := hP1
      have hD : va_D A (XL h ad ca tc cl tr g_4) := hD1.weaken (fun _ _ _ h => hFc _ h)
      clear hP1 hK1 hD1 hFc hk1 hz1 hvm ht
      generalize H1 = H at hP hS ⊢
      try dsimp only at hw
      exact W.iret (v := r_3) hx hb hr (fun t ht hW => ⟨⟨r_3, g_4, rfl, hw, by rw [ht]; exact hP, va_K.moved hW.alike hK, hD⟩, hS.F ht⟩) hS.2.2 dX0_at_54
    by_cases hc2 : x1 = 3
    · replace hw := hw.2.2.1 hc2
      refine lv_tableIn (off := 54) (tgt := 55) hx hb dX0_at_1 (by rw [hc2]; decide) (by rw [hc2]; decide) (by rw [hc2]; rfl) (by decide) ?_
      refine lv_aload_n hx hb dX0_at_55 rfl (lv_at hl 0 rfl) ?_
      refine lv_iload_n hx hb dX0_at_56 rfl (lv_at hl 1 rfl) ?_
      refine lv_iconst (v := (-1 : Int32)) hx hb dX0_at_57 (by decide) ?_
      have hFc := va_free (wc := (XL h ad ca tc cl tr g)) hD hS hA [0, 1, 2, 3, 4, 5, 6, 7, 8, 9, 10] rfl
      refine va_calli (va_runV (As := [.int x1, .int (-1 : Int32)]) (rest := []) ⟨hx, hb, hml, hown, hts⟩ (cX_sumAtRoot l dC dI h ad ca H.size tc cl tr g x1 (-1 : Int32) _ hw) (cwV 2 hts gX0_at_X0_sumAtRoot rfl rfl rfl (by decide +kernel) ⟨Nat.le_of_ble_eq_true rfl, Nat.le_of_ble_eq_true rfl⟩) ⟨fun a U g mk q => by obtain ⟨q0, q1, qP, qK, qD⟩ := q; exact ⟨q0, q1, qP, va_K.moved (u := U) (U := U.calling g mk a) (Vm.Alike.refl U.vm) qK, qD⟩, va_recv hK hP (ci := 0) (q0 := 0) rfl rfl, fun U hU hW => ⟨rfl, by rw [hU], by rw [hU]; exact hP, va_K.moved hW.alike hK, hD.weaken (fun _ _ _ _ => trivial)⟩⟩ rfl rfl hl.1 rfl (lv_room (Nat.le_of_ble_eq_true rfl)) dX0_at_58 ⟨Nat.zero_le _, Nat.zero_le _⟩) hS (fun q _ h => hFc q h) hFc (fun r_5 g_6 t H1 locs ht hvm hw hB hz1 hk1 hS => ?_)
      obtain ⟨hP1, hK1, hD1⟩ := hB
      rw [ht] at hP1
      have hP : va_P (dC, dI) vwCl (XL h ad ca tc cl tr g_6) H1 := hP1
      have hD : va_D A (XL h ad ca tc cl tr g_6) := hD1.weaken (fun _ _ _ h => hFc _ h)
      clear hP1 hK1 hD1 hFc hk1 hz1 hvm ht
      generalize H1 = H at hP hS ⊢
      try dsimp only at hw
      exact W.iret (v := r_5) hx hb hr (fun t ht hW => ⟨⟨r_5, g_6, rfl, hw, by rw [ht]; exact hP, va_K.moved hW.alike hK, hD⟩, hS.F ht⟩) hS.2.2 dX0_at_61
    by_cases hc3 : x1 = 4
    · replace hw := hw.2.2.2.1 hc3
      refine lv_tableIn (off := 61) (tgt := 62) hx hb dX0_at_1 (by rw [hc3]; decide) (by rw [hc3]; decide) (by rw [hc3]; rfl) (by decide) ?_
      refine lv_aload_n hx hb dX0_at_62 rfl (lv_at hl 0 rfl) ?_
      refine lv_iload_n hx hb dX0_at_63 rfl (lv_at hl 1 rfl) ?_
      refine lv_iconst (v := (0 : Int32)) hx hb dX0_at_64 (by decide) ?_
      have hFc := va_free (wc := (XL h ad ca tc cl tr g)) hD hS hA [0, 1, 2, 3, 4, 5, 6, 7, 8, 9, 10] rfl
      refine va_calli (va_runV (As := [.int x1, .int (0 : Int32)]) (rest := []) ⟨hx, hb, hml, hown, hts⟩ (cX_sumAtRoot l dC dI h ad ca H.size tc cl tr g x1 (0 : Int32) _ hw) (cwV 2 hts gX0_at_X0_sumAtRoot rfl rfl rfl (by decide +kernel) ⟨Nat.le_of_ble_eq_true rfl, Nat.le_of_ble_eq_true rfl⟩) ⟨fun a U g mk q => by obtain ⟨q0, q1, qP, qK, qD⟩ := q; exact ⟨q0, q1, qP, va_K.moved (u := U) (U := U.calling g mk a) (Vm.Alike.refl U.vm) qK, qD⟩, va_recv hK hP (ci := 0) (q0 := 0) rfl rfl, fun U hU hW => ⟨rfl, by rw [hU], by rw [hU]; exact hP, va_K.moved hW.alike hK, hD.weaken (fun _ _ _ _ => trivial)⟩⟩ rfl rfl hl.1 rfl (lv_room (Nat.le_of_ble_eq_true rfl)) dX0_at_65 ⟨Nat.zero_le _, Nat.zero_le _⟩) hS (fun q _ h => hFc q h) hFc (fun r_7 g_8 t H1 locs ht hvm hw hB hz1 hk1 hS => ?_)
      obtain ⟨hP1, hK1, hD1⟩ := hB
      rw [ht] at hP1
      have hP : va_P (dC, dI) vwCl (XL h ad ca tc cl tr g_8) H1 := hP1
      have hD : va_D A (XL h ad ca tc cl tr g_8) := hD1.weaken (fun _ _ _ h => hFc _ h)
      clear hP1 hK1 hD1 hFc hk1 hz1 hvm ht
      generalize H1 = H at hP hS ⊢
      try dsimp only at hw
      exact W.iret (v := r_7) hx hb hr (fun t ht hW => ⟨⟨r_7, g_8, rfl, hw, by rw [ht]; exact hP, va_K.moved hW.alike hK, hD⟩, hS.F ht⟩) hS.2.2 dX0_at_68
    by_cases hc4 : x1 = 6
    · replace hw := hw.2.2.2.2.1 hc4
      refine lv_tableIn (off := 68) (tgt := 69) hx hb dX0_at_1 (by rw [hc4]; decide) (by rw [hc4]; decide) (by rw [hc4]; rfl) (by decide) ?_
      refine lv_aload_n hx hb dX0_at_69 rfl (lv_at hl 0 rfl) ?_
      refine lv_iload_n hx hb dX0_at_70 rfl (lv_at hl 1 rfl) ?_
      refine lv_iconst (v := (1 : Int32)) hx hb dX0_at_71 (by decide) ?_
      have hFc := va_free (wc := (XL h ad ca tc cl tr g)) hD hS hA [0, 1, 2, 3, 4, 5, 6, 7, 8, 9, 10] rfl
      refine va_calli (va_runV (As := [.int x1, .int (1 : Int32)]) (rest := []) ⟨hx, hb, hml, hown, hts⟩ (cX_sumAtRoot l dC dI h ad ca H.size tc cl tr g x1 (1 : Int32) _ hw) (cwV 2 hts gX0_at_X0_sumAtRoot rfl rfl rfl (by decide +kernel) ⟨Nat.le_of_ble_eq_true rfl, Nat.le_of_ble_eq_true rfl⟩) ⟨fun a U g mk q => by obtain ⟨q0, q1, qP, qK, qD⟩ := q; exact ⟨q0, q1, qP, va_K.moved (u := U) (U := U.calling g mk a) (Vm.Alike.refl U.vm) qK, qD⟩, va_recv hK hP (ci := 0) (q0 := 0) rfl rfl, fun U hU hW => ⟨rfl, by rw [hU], by rw [hU]; exact hP, va_K.moved hW.alike hK, hD.weaken (fun _ _ _ _ => trivial)⟩⟩ rfl rfl hl.1 rfl (lv_room (Nat.le_of_ble_eq_true rfl)) dX0_at_72 ⟨Nat.zero_le _, Nat.zero_le _⟩) hS (fun q _ h => hFc q h) hFc (fun r_9 g_10 t H1 locs ht hvm hw hB hz1 hk1 hS => ?_)
      obtain ⟨hP1, hK1, hD1⟩ := hB
      rw [ht] at hP1
      have hP : va_P (dC, dI) vwCl (XL h ad ca tc cl tr g_10) H1 := hP1
      have hD : va_D A (XL h ad ca tc cl tr g_10) := hD1.weaken (fun _ _ _ h => hFc _ h)
      clear hP1 hK1 hD1 hFc hk1 hz1 hvm ht
      generalize H1 = H at hP hS ⊢
      try dsimp only at hw
      exact W.iret (v := r_9) hx hb hr (fun t ht hW => ⟨⟨r_9, g_10, rfl, hw, by rw [ht]; exact hP, va_K.moved hW.alike hK, hD⟩, hS.F ht⟩) hS.2.2 dX0_at_75
    replace hw := hw.2.2.2.2.2 hc0 hc1 hc2 hc3 hc4
    by_cases hd5 : x1 = 5
    · refine lv_tableIn (off := 75) (tgt := 76) hx hb dX0_at_1 (by rw [hd5]; decide) (by rw [hd5]; decide) (by rw [hd5]; rfl) (by decide) ?_
      refine lv_ldc (v := (-1000001 : Int32)) hx hb hown k143 dX0_at_76 ?_
      exact W.iret (v := (-1000001 : Int32)) hx hb hr (fun t ht hW => ⟨⟨(-1000001 : Int32), g, rfl, hw, by rw [ht]; exact hP, va_K.moved hW.alike hK, hD⟩, hS.F ht⟩) hS.2.2 dX0_at_78
    have hout : (x1).toInt < 1 ∨ 6 < (x1).toInt := sw_out (lo := 1) (n := 6) (fun k hk => by rcases (show k = 0 ∨ k = 1 ∨ k = 2 ∨ k = 3 ∨ k = 4 ∨ k = 5 by omega) with rfl | rfl | rfl | rfl | rfl | rfl <;> assumption)
    refine lv_tableOut (tgt := 76) hx hb dX0_at_1 hout (by decide) ?_
    refine lv_ldc (v := (-1000001 : Int32)) hx hb hown k143 dX0_at_76 ?_
    exact W.iret (v := (-1000001 : Int32)) hx hb hr (fun t ht hW => ⟨⟨(-1000001 : Int32), g, rfl, hw, by rw [ht]; exact hP, va_K.moved hW.alike hK, hD⟩, hS.F ht⟩) hS.2.2 dX0_at_78
  rw [hHe, hLe] at hgo
  exact hgo
-- X0_stays
set_option maxHeartbeats 4000000 in
set_option maxRecDepth 100000 in
theorem cX_stays (l : Launch) (dC : Nat → ClassId) (dI : Nat → Nat → Nat) (h : Nat) (ad : Nat → Nat) (ca : Nat → ClassId) (sz : Nat) (tc cl : Int32) (tr : Int64) (g : Sg) (x1 : Int32) (x2 : Int32) (P : Int32 → Sg → Prop) (hw : wX_stays P tc cl tr g x1 x2) : Met l yX0_stays wsX0_stays ({ frames := 6, cells := 0, slots := 0, locals := 136 }) (va_Pc [.ref h, .int x1, .int x2] (fun U => U.heap.size = sz ∧ va_P (dC, dI) vwCl (XL h ad ca tc cl tr g) U.heap ∧ va_K (dC, dI) vwCl (XT ca) U ∧ va_D (fun _ => True) (XL h ad ca tc cl tr g))) (va_Qi (fun (r : Int32) (u : Sg) => P r u) (at_X1 dC dI (va_A (XL h ad ca tc cl tr g) sz) h ad ca tc cl tr) (va_A (XL h ad ca tc cl tr g) sz)) 0 0 (va_A (XL h ad ca tc cl tr g) sz) := by
  refine Met.ofW (cc := cX0_stays) (maxL := 7) (ret := (some .int)) (by decide) rfl ?_
  intro p e s m args below meth c s₁ B0 hml hv
  obtain ⟨hargs, hsz, hP, hK, hD0⟩ := hv
  have hx := B0.exec
  have hb := B0.bytes
  have hr := B0.returns
  have hts := atoms_spec (ws := wsX0_stays) B0.pre
  have hown : s.vm.findClass RX0 = some m.cls := findClass_of_methodNamed B0.named
  have hlocks := B0.notSynchronized
  have inw : ∀ w ∈ wsX00, w ∈ wsX0_stays := fun w h => List.mem_cons_of_mem _ (List.mem_append_right _ h)
  have f38 : (Cond.fieldLink RX0 38 "FlipHeaps" "lengths" "[I").before args s = true := hts _ (by decide +kernel)
  subst hsz
  have hD := hD0.self (sz := s.heap.size)
  generalize hAe : va_A (XL h ad ca tc cl tr g) s.heap.size = A at hD ⊢
  have hA : ∀ q : Nat, s.heap.size ≤ q → A q := fun q h => by rw [← hAe]; exact Or.inr h
  clear hAe hD0
  have hS : va_S A s.heap s.heap [] := va_S.rf
  have lp_28 : ∀ (x2 : Int32) (x3 : Int32), ∀ (n : Nat) (x4 : Int32) (x5 : Int32) (g : Sg) (H : Heap) (locs : List Loc) (ls : Array Slot), Lp3 (wX_stays_b28 P tc cl tr x2 x3) n x4 x5 g → va_P (dC, dI) vwCl (XL h ad ca tc cl tr g) H → va_D A (XL h ad ca tc cl tr g) → va_S A s.heap H locs → lv_has ls 7 [(0, .ref h), (2, .int x2), (3, .int x3), (4, .int x4), (5, .int x5)] → W p l e (headSpec wsX0_stays ({ frames := 6, cells := 0, slots := 0, locals := 136 })).room s m args below meth c H locs 0 0 (MQ below (va_Qi (fun (r : Int32) (u : Sg) => P r u) (at_X1 dC dI A h ad ca tc cl tr) A) args s 0 0 A) (F0 m 28 ls []) := by
    intro x2 x3
    intro n
    induction n with
    | zero => intro x4 x5 g H locs ls hw; exact False.elim hw
    | succ n hB =>
      intro x4 x5 g H locs ls hw hP hD hS hl
      replace hw : wX_stays_b28 P tc cl tr x2 x3 (Lp3 (wX_stays_b28 P tc cl tr x2 x3) n) x4 x5 g := hw
      unfold wX_stays_b28 at hw
      refine lv_iload hx hb dX0_stays_28 (lv_at hl 4 rfl) ?_
      refine lv_iload_n hx hb dX0_stays_30 rfl (lv_at hl 2 rfl) ?_
      refine lv_icmp_ge (tgt := 68) hx hb dX0_stays_31 (by decide) (fun hc => ?_) (fun hc => ?_)
      · replace hw := hw.1 hc
        clear hc
        refine lv_iload hx hb dX0_stays_68 (lv_at hl 3 rfl) ?_
        exact W.iret (v := x4) hx hb hr (fun t ht hW => ⟨⟨x4, g, rfl, hw, by rw [ht]; exact hP, va_K.moved hW.alike hK, hD⟩, hS.F ht⟩) hS.2.2 dX0_stays_70
      · replace hw := hw.2 hc
        clear hc
        refine lv_aload_n hx hb dX0_stays_34 rfl (lv_at hl 0 rfl) ?_
        refine va_get (D := (dC, dI)) (ci := 0) (C := RX0) (T := TX0) (N := 13) hx hb hts inw hown hK hP 0 rfl rfl 11 (by decide) f38 (fun _ h9 => h9) rfl dX0_stays_35 ?_
        refine lv_iload hx hb dX0_stays_38 (lv_at hl 4 rfl) ?_
        obtain ⟨hin, hw⟩ := hw
        refine va_iald hx hb hK hP 9 8 rfl rfl hin dX0_stays_40 ?_
        refine lv_topi (fun x6_1 hv => ?_)
        replace hw := hw x6_1 hv
        clear hv
        refine lv_istore (lv' := [(6, .int x6_1), (0, .ref h), (2, .int x2), (3, .int x3), (4, .int x4), (5, .int x5)]) hx hb dX0_stays_41 hl (by decide) rfl (fun ls hl => ?_)
        refine lv_iload hx hb dX0_stays_43 (lv_at hl 0 rfl) ?_
        refine lv_if_le (tgt := 62) hx hb dX0_stays_45 (by decide) (fun hc => ?_) (fun hc => ?_)
        · replace hw := hw.1 hc
          clear hc
          refine lv_iinc (v := (x5 + 1)) (lv' := [(5, .int ((x5 + 1))), (6, .int x6_1), (0, .ref h), (2, .int x2), (3, .int x3), (4, .int x4)]) hx hb dX0_stays_62 hl (k := 5) rfl rfl (by decide) rfl (fun ls hl => ?_)
          refine lv_goto (tgt := 28) hx hb dX0_stays_65 (by decide) ?_
          exact hB x4 (x5 + 1) g H locs ls hw hP hD hS (lv_sub hl [2, 3, 4, 5, 0] rfl)
        · replace hw := hw.2 hc
          clear hc
          refine lv_iload_n hx hb dX0_stays_48 rfl (lv_at hl 2 rfl) ?_
          refine lv_iload hx hb dX0_stays_49 (lv_at hl 0 rfl) ?_
          obtain ⟨hne, hw⟩ := hw
          refine lv_irem hx hb dX0_stays_51 hne ?_
          refine lv_if_ne (tgt := 62) hx hb dX0_stays_52 (by decide) (fun hc => ?_) (fun hc => ?_)
          · replace hw := hw.1 hc
            clear hc
            refine lv_iinc (v := (x5 + 1)) (lv' := [(5, .int ((x5 + 1))), (6, .int x6_1), (0, .ref h), (2, .int x2), (3, .int x3), (4, .int x4)]) hx hb dX0_stays_62 hl (k := 5) rfl rfl (by decide) rfl (fun ls hl => ?_)
            refine lv_goto (tgt := 28) hx hb dX0_stays_65 (by decide) ?_
            exact hB x4 (x5 + 1) g H locs ls hw hP hD hS (lv_sub hl [2, 3, 4, 5, 0] rfl)
          · replace hw := hw.2 hc
            clear hc
            refine lv_iload hx hb dX0_stays_55 (lv_at hl 4 rfl) ?_
            refine lv_iload hx hb dX0_stays_57 (lv_at hl 0 rfl) ?_
            refine lv_iadd hx hb dX0_stays_59 ?_
            refine lv_topi (fun x4_2 hv => ?_)
            replace hw := hw x4_2 hv
            clear hv
            refine lv_istore (lv' := [(4, .int x4_2), (6, .int x6_1), (0, .ref h), (2, .int x2), (3, .int x3), (5, .int x5)]) hx hb dX0_stays_60 hl (by decide) rfl (fun ls hl => ?_)
            refine lv_iinc (v := (x5 + 1)) (lv' := [(5, .int ((x5 + 1))), (4, .int x4_2), (6, .int x6_1), (0, .ref h), (2, .int x2), (3, .int x3)]) hx hb dX0_stays_62 hl (k := 5) rfl rfl (by decide) rfl (fun ls hl => ?_)
            refine lv_goto (tgt := 28) hx hb dX0_stays_65 (by decide) ?_
            exact hB x4_2 (x5 + 1) g H locs ls hw hP hD hS (lv_sub hl [3, 4, 5, 1, 0] rfl)
  subst hargs
  unfold wX_stays at hw
  have hl := lv_entry ([.ref h, .int x1, .int x2]) (n := 7) (Nat.le_of_ble_eq_true rfl)
  rw [lg_entry_eq]
  generalize (lg_sl ([.ref h, .int x1, .int x2]) ++ List.replicate (7 - (lg_sl ([.ref h, .int x1, .int x2])).length) Slot.unset).toArray = ls at hl ⊢
  have hl : lv_has ls 7 [(0, .ref h), (1, .int x1), (2, .int x2)] := hl
  obtain ⟨H, hHe⟩ : ∃ z : Heap, z = s.heap := ⟨_, rfl⟩
  obtain ⟨locs, hLe⟩ : ∃ z : List Loc, z = [] := ⟨_, rfl⟩
  have hS : va_S A s.heap H locs := by rw [hHe, hLe]; exact hS
  have hP : va_P (dC, dI) vwCl (XL h ad ca tc cl tr g) H := by rw [hHe]; exact hP
  have hgo : W p l e (headSpec wsX0_stays ({ frames := 6, cells := 0, slots := 0, locals := 136 })).room s m ([.ref h, .int x1, .int x2] : List Value).toArray below meth c H locs 0 0 (MQ below (va_Qi (fun (r : Int32) (u : Sg) => P r u) (at_X1 dC dI A h ad ca tc cl tr) A) ([.ref h, .int x1, .int x2] : List Value).toArray s 0 0 A) (F0 m 0 ls []) := by
    clear hHe hLe
    refine lv_iload_n hx hb dX0_stays_0 rfl (lv_at hl 1 rfl) ?_
    refine vp_callSi (W.runS (As := [.int x1]) (rest := []) ⟨hx, hb, hml, hown, hts⟩ (cX_isTurnKind l x1 _ hw) (va_cwS 1 hts gX0_stays_X0_isTurnKind rfl rfl rfl (by decide +kernel) ⟨Nat.le_of_ble_eq_true rfl, Nat.le_of_ble_eq_true rfl⟩) ⟨fun a U g mk q => q, fun U hU hW => ⟨rfl, trivial⟩⟩ rfl rfl hl.1 rfl (lv_room (Nat.le_of_ble_eq_true rfl)) dX0_stays_1 ⟨Nat.zero_le _, Nat.zero_le _⟩) (fun r_3 hw => ?_)
    try dsimp only at hw
    refine lv_if_eq (tgt := 14) hx hb dX0_stays_4 (by decide) (fun hc => ?_) (fun hc => ?_)
    · replace hw := hw.1 hc
      clear hc
      refine lv_iconst (v := (-1 : Int32)) hx hb dX0_stays_14 (by decide) ?_
      exact W.iret (v := (-1 : Int32)) hx hb hr (fun t ht hW => ⟨⟨(-1 : Int32), g, rfl, hw, by rw [ht]; exact hP, va_K.moved hW.alike hK, hD⟩, hS.F ht⟩) hS.2.2 dX0_stays_15
    · replace hw := hw.2 hc
      clear hc
      refine lv_iload_n hx hb dX0_stays_7 rfl (lv_at hl 2 rfl) ?_
      refine vp_callSi (W.runS (As := [.int x2]) (rest := []) ⟨hx, hb, hml, hown, hts⟩ (cX_isTurnNumber l x2 _ hw) (va_cwS 1 hts gX0_stays_X0_isTurnNumber rfl rfl rfl (by decide +kernel) ⟨Nat.le_of_ble_eq_true rfl, Nat.le_of_ble_eq_true rfl⟩) ⟨fun a U g mk q => q, fun U hU hW => ⟨rfl, trivial⟩⟩ rfl rfl hl.1 rfl (lv_room (Nat.le_of_ble_eq_true rfl)) dX0_stays_8 ⟨Nat.zero_le _, Nat.zero_le _⟩) (fun r_4 hw => ?_)
      try dsimp only at hw
      refine lv_if_ne (tgt := 16) hx hb dX0_stays_11 (by decide) (fun hc => ?_) (fun hc => ?_)
      · replace hw := hw.1 hc
        clear hc
        refine lv_aload_n hx hb dX0_stays_16 rfl (lv_at hl 0 rfl) ?_
        refine lv_iload_n hx hb dX0_stays_17 rfl (lv_at hl 1 rfl) ?_
        have hFc := va_free (wc := (XL h ad ca tc cl tr g)) hD hS hA [0, 1, 2, 3, 4, 5, 6, 7, 8, 9, 10] rfl
        refine va_calli (va_runV (As := [.int x1]) (rest := []) ⟨hx, hb, hml, hown, hts⟩ (cX_findOrbits l dC dI h ad ca H.size tc cl tr g x1 _ hw) (cwV 1 hts gX0_stays_X0_findOrbits rfl rfl rfl (by decide +kernel) ⟨Nat.le_of_ble_eq_true rfl, Nat.le_of_ble_eq_true rfl⟩) ⟨fun a U g mk q => by obtain ⟨q0, q1, qP, qK, qD⟩ := q; exact ⟨q0, q1, qP, va_K.moved (u := U) (U := U.calling g mk a) (Vm.Alike.refl U.vm) qK, qD⟩, va_recv hK hP (ci := 0) (q0 := 0) rfl rfl, fun U hU hW => ⟨rfl, by rw [hU], by rw [hU]; exact hP, va_K.moved hW.alike hK, hD.weaken (fun _ _ _ _ => trivial)⟩⟩ rfl rfl hl.1 rfl (lv_room (Nat.le_of_ble_eq_true rfl)) dX0_stays_18 ⟨Nat.zero_le _, Nat.zero_le _⟩) hS (fun q _ h => hFc q h) hFc (fun r_5 g_6 t H1 locs ht hvm hw hB hz1 hk1 hS => ?_)
        obtain ⟨hP1, hK1, hD1⟩ := hB
        rw [ht] at hP1
        have hP : va_P (dC, dI) vwCl (XL h ad ca tc cl tr g_6) H1 := hP1
        have hD : va_D A (XL h ad ca tc cl tr g_6) := hD1.weaken (fun _ _ _ h => hFc _ h)
        clear hP1 hK1 hD1 hFc hk1 hz1 hvm ht
        generalize H1 = H at hP hS ⊢
        try dsimp only at hw
        refine lv_istore_n (lv' := [(3, .int r_5), (0, .ref h), (1, .int x1), (2, .int x2)]) hx hb dX0_stays_21 rfl hl (by decide) rfl (fun ls hl => ?_)
        refine lv_iconst (v := (0 : Int32)) hx hb dX0_stays_22 (by decide) ?_
        refine lv_istore (lv' := [(4, .int (0 : Int32)), (3, .int r_5), (0, .ref h), (1, .int x1), (2, .int x2)]) hx hb dX0_stays_23 hl (by decide) rfl (fun ls hl => ?_)
        refine lv_iconst (v := (0 : Int32)) hx hb dX0_stays_25 (by decide) ?_
        refine lv_istore (lv' := [(5, .int (0 : Int32)), (4, .int (0 : Int32)), (3, .int r_5), (0, .ref h), (1, .int x1), (2, .int x2)]) hx hb dX0_stays_26 hl (by decide) rfl (fun ls hl => ?_)
        obtain ⟨n_7, hw⟩ := hw
        exact lp_28 x2 r_5 n_7 (0 : Int32) (0 : Int32) g_6 H locs ls hw hP hD hS (lv_sub hl [3, 5, 2, 1, 0] rfl)
      · replace hw := hw.2 hc
        clear hc
        refine lv_iconst (v := (-1 : Int32)) hx hb dX0_stays_14 (by decide) ?_
        exact W.iret (v := (-1 : Int32)) hx hb hr (fun t ht hW => ⟨⟨(-1 : Int32), g, rfl, hw, by rw [ht]; exact hP, va_K.moved hW.alike hK, hD⟩, hS.F ht⟩) hS.2.2 dX0_stays_15
  rw [hHe, hLe] at hgo
  exact hgo
-- X0_pairCount
set_option maxHeartbeats 4000000 in
set_option maxRecDepth 100000 in
theorem cX_pairCount (l : Launch) (dC : Nat → ClassId) (dI : Nat → Nat → Nat) (h : Nat) (ad : Nat → Nat) (ca : Nat → ClassId) (tc cl : Int32) (tr : Int64) (g : Sg) (P : Int32 → Prop) (hw : wX_pairCount P tc cl tr g) : Met l yX0_pairCount wsX0_pairCount ({ frames := 1, cells := 0, slots := 0, locals := 20 }) (va_Pc [.ref h] (fun U => va_P (dC, dI) vwCl (XL h ad ca tc cl tr g) U.heap ∧ va_K (dC, dI) vwCl (XT ca) U)) (vp_Si P) 0 0 (fun _ => False) := by
  refine Met.ofW (cc := cX0_pairCount) (maxL := 3) (ret := (some .int)) (by decide) rfl ?_
  intro p e s m args below meth c s₁ B0 hml hv
  obtain ⟨hargs, hP, hK⟩ := hv
  have hx := B0.exec
  have hb := B0.bytes
  have hr := B0.returns
  have hts := atoms_spec (ws := wsX0_pairCount) B0.pre
  have hown : s.vm.findClass RX0 = some m.cls := findClass_of_methodNamed B0.named
  have hlocks := B0.notSynchronized
  have inw : ∀ w ∈ wsX00, w ∈ wsX0_pairCount := fun w h => List.mem_cons_of_mem _ (List.mem_append_right _ h)
  have f9 : (Cond.fieldLink RX0 9 "FlipHeaps" "thingCount" "I").before args s = true := hts _ (by decide +kernel)
  have f13 : (Cond.fieldLink RX0 13 "FlipHeaps" "under" "[I").before args s = true := hts _ (by decide +kernel)
  have lp_4 : ∀ (n : Nat) (x1 : Int32) (x2 : Int32) (ls : Array Slot), Lp2 (wX_pairCount_b4 P tc cl tr g) n x1 x2 → lv_has ls 3 [(0, .ref h), (1, .int x1), (2, .int x2)] → W p l e (headSpec wsX0_pairCount ({ frames := 1, cells := 0, slots := 0, locals := 20 })).room s m args below meth c s.heap [] 0 0 (MQ below (vp_Si P) args s 0 0 (fun _ => False)) (F0 m 4 ls []) := by
    intro n
    induction n with
    | zero => intro x1 x2 ls hw; exact False.elim hw
    | succ n hB =>
      intro x1 x2 ls hw hl
      replace hw : wX_pairCount_b4 P tc cl tr g (Lp2 (wX_pairCount_b4 P tc cl tr g) n) x1 x2 := hw
      unfold wX_pairCount_b4 at hw
      refine lv_iload_n hx hb dX0_pairCount_4 rfl (lv_at hl 2 rfl) ?_
      refine lv_aload_n hx hb dX0_pairCount_5 rfl (lv_at hl 0 rfl) ?_
      refine va_get (D := (dC, dI)) (ci := 0) (C := RX0) (T := TX0) (N := 13) hx hb hts inw hown hK hP 0 rfl rfl 0 (by decide) f9 (fun _ h9 => h9) rfl dX0_pairCount_6 ?_
      refine lv_icmp_ge (tgt := 30) hx hb dX0_pairCount_9 (by decide) (fun hc => ?_) (fun hc => ?_)
      · replace hw := hw.1 hc
        clear hc
        refine lv_iload_n hx hb dX0_pairCount_30 rfl (lv_at hl 1 rfl) ?_
        exact W.iret (v := x1) hx hb hr (fun t ht hW => ⟨_, rfl, hw, ht⟩) (fun q h => absurd h List.not_mem_nil) dX0_pairCount_31
      · replace hw := hw.2 hc
        clear hc
        refine lv_iload_n hx hb dX0_pairCount_12 rfl (lv_at hl 1 rfl) ?_
        refine lv_aload_n hx hb dX0_pairCount_13 rfl (lv_at hl 0 rfl) ?_
        refine va_get (D := (dC, dI)) (ci := 0) (C := RX0) (T := TX0) (N := 13) hx hb hts inw hown hK hP 0 rfl rfl 3 (by decide) f13 (fun _ h9 => h9) rfl dX0_pairCount_14 ?_
        refine lv_iload_n hx hb dX0_pairCount_17 rfl (lv_at hl 2 rfl) ?_
        obtain ⟨hin, hw⟩ := hw
        refine va_iald hx hb hK hP 1 0 rfl rfl hin dX0_pairCount_18 ?_
        refine vp_callSi (W.runS (As := [.int ((g 3 (x2).toNatClampNeg))]) (rest := [.int x1]) ⟨hx, hb, hml, hown, hts⟩ (cJ_bitCount l (g 3 (x2).toNatClampNeg) _ hw) (va_cwS 1 hts gX0_pairCount_J6_bitCount_0f7a4 rfl rfl rfl (by decide +kernel) ⟨Nat.le_of_ble_eq_true rfl, Nat.le_of_ble_eq_true rfl⟩) ⟨fun a U g mk q => q, fun U hU hW => ⟨rfl, trivial⟩⟩ rfl rfl hl.1 rfl (lv_room (Nat.le_of_ble_eq_true rfl)) dX0_pairCount_19 ⟨Nat.zero_le _, Nat.zero_le _⟩) (fun r_1 hw => ?_)
        try dsimp only at hw
        refine lv_iadd hx hb dX0_pairCount_22 ?_
        refine lv_topi (fun x1_2 hv => ?_)
        replace hw := hw x1_2 hv
        clear hv
        refine lv_istore_n (lv' := [(1, .int x1_2), (0, .ref h), (2, .int x2)]) hx hb dX0_pairCount_23 rfl hl (by decide) rfl (fun ls hl => ?_)
        refine lv_iinc (v := (x2 + 1)) (lv' := [(2, .int ((x2 + 1))), (1, .int x1_2), (0, .ref h)]) hx hb dX0_pairCount_24 hl (k := 2) rfl rfl (by decide) rfl (fun ls hl => ?_)
        refine lv_goto (tgt := 4) hx hb dX0_pairCount_27 (by decide) ?_
        exact hB x1_2 (x2 + 1) ls hw (lv_sub hl [2, 1, 0] rfl)
  subst hargs
  unfold wX_pairCount at hw
  have hl := lv_entry ([.ref h]) (n := 3) (Nat.le_of_ble_eq_true rfl)
  rw [lg_entry_eq]
  generalize (lg_sl ([.ref h]) ++ List.replicate (3 - (lg_sl ([.ref h])).length) Slot.unset).toArray = ls at hl ⊢
  have hl : lv_has ls 3 [(0, .ref h)] := hl
  refine lv_iconst (v := (0 : Int32)) hx hb dX0_pairCount_0 (by decide) ?_
  refine lv_istore_n (lv' := [(1, .int (0 : Int32)), (0, .ref h)]) hx hb dX0_pairCount_1 rfl hl (by decide) rfl (fun ls hl => ?_)
  refine lv_iconst (v := (0 : Int32)) hx hb dX0_pairCount_2 (by decide) ?_
  refine lv_istore_n (lv' := [(2, .int (0 : Int32)), (1, .int (0 : Int32)), (0, .ref h)]) hx hb dX0_pairCount_3 rfl hl (by decide) rfl (fun ls hl => ?_)
  obtain ⟨n_3, hw⟩ := hw
  exact lp_4 n_3 (0 : Int32) (0 : Int32) ls hw (lv_sub hl [2, 1, 0] rfl)
-- X0_count
set_option maxHeartbeats 4000000 in
set_option maxRecDepth 100000 in
theorem cX_count (l : Launch) (dC : Nat → ClassId) (dI : Nat → Nat → Nat) (h : Nat) (ad : Nat → Nat) (ca : Nat → ClassId) (tc cl : Int32) (tr : Int64) (g : Sg) (x1 : Int32) (P : Int32 → Prop) (hw : wX_count P tc cl tr g x1) : Met l yX0_count wsX0_count ({ frames := 2, cells := 0, slots := 0, locals := 42 }) (va_Pc [.ref h, .int x1] (fun U => va_P (dC, dI) vwCl (XL h ad ca tc cl tr g) U.heap ∧ va_K (dC, dI) vwCl (XT ca) U)) (vp_Si P) 0 0 (fun _ => False) := by
  refine Met.ofW (cc := cX0_count) (maxL := 2) (ret := (some .int)) (by decide) rfl ?_
  intro p e s m args below meth c s₁ B0 hml hv
  obtain ⟨hargs, hP, hK⟩ := hv
  have hx := B0.exec
  have hb := B0.bytes
  have hr := B0.returns
  have hts := atoms_spec (ws := wsX0_count) B0.pre
  have hown : s.vm.findClass RX0 = some m.cls := findClass_of_methodNamed B0.named
  have hlocks := B0.notSynchronized
  have inw : ∀ w ∈ wsX00, w ∈ wsX0_count := fun w h => List.mem_cons_of_mem _ (List.mem_append_right _ h)
  have f9 : (Cond.fieldLink RX0 9 "FlipHeaps" "thingCount" "I").before args s = true := hts _ (by decide +kernel)
  have f45 : (Cond.fieldLink RX0 45 "FlipHeaps" "chainLength" "I").before args s = true := hts _ (by decide +kernel)
  subst hargs
  unfold wX_count at hw
  have hl := lv_entry ([.ref h, .int x1]) (n := 2) (Nat.le_of_ble_eq_true rfl)
  rw [lg_entry_eq]
  generalize (lg_sl ([.ref h, .int x1]) ++ List.replicate (2 - (lg_sl ([.ref h, .int x1])).length) Slot.unset).toArray = ls at hl ⊢
  have hl : lv_has ls 2 [(0, .ref h), (1, .int x1)] := hl
  refine lv_iload_n hx hb dX0_count_0 rfl (lv_at hl 1 rfl) ?_
  by_cases hc0 : x1 = 0
  · replace hw := hw.1 hc0
    refine lv_tableIn (off := 27) (tgt := 28) hx hb dX0_count_1 (by rw [hc0]; decide) (by rw [hc0]; decide) (by rw [hc0]; rfl) (by decide) ?_
    refine lv_aload_n hx hb dX0_count_28 rfl (lv_at hl 0 rfl) ?_
    refine va_get (D := (dC, dI)) (ci := 0) (C := RX0) (T := TX0) (N := 13) hx hb hts inw hown hK hP 0 rfl rfl 0 (by decide) f9 (fun _ h9 => h9) rfl dX0_count_29 ?_
    exact W.iret (v := tc) hx hb hr (fun t ht hW => ⟨_, rfl, hw, ht⟩) (fun q h => absurd h List.not_mem_nil) dX0_count_32
  by_cases hc1 : x1 = 1
  · replace hw := hw.2.1 hc1
    refine lv_tableIn (off := 32) (tgt := 33) hx hb dX0_count_1 (by rw [hc1]; decide) (by rw [hc1]; decide) (by rw [hc1]; rfl) (by decide) ?_
    refine lv_aload_n hx hb dX0_count_33 rfl (lv_at hl 0 rfl) ?_
    refine va_get (D := (dC, dI)) (ci := 0) (C := RX0) (T := TX0) (N := 13) hx hb hts inw hown hK hP 0 rfl rfl 1 (by decide) f45 (fun _ h9 => h9) rfl dX0_count_34 ?_
    exact W.iret (v := cl) hx hb hr (fun t ht hW => ⟨_, rfl, hw, ht⟩) (fun q h => absurd h List.not_mem_nil) dX0_count_37
  by_cases hc2 : x1 = 2
  · replace hw := hw.2.2.1 hc2
    refine lv_tableIn (off := 37) (tgt := 38) hx hb dX0_count_1 (by rw [hc2]; decide) (by rw [hc2]; decide) (by rw [hc2]; rfl) (by decide) ?_
    refine lv_aload_n hx hb dX0_count_38 rfl (lv_at hl 0 rfl) ?_
    refine vp_callSi (W.runV (As := []) (rest := []) ⟨hx, hb, hml, hown, hts⟩ (cX_pairCount l dC dI h ad ca tc cl tr g _ hw) (cwV 0 hts gX0_count_X0_pairCount rfl rfl rfl (by decide +kernel) ⟨Nat.le_of_ble_eq_true rfl, Nat.le_of_ble_eq_true rfl⟩) ⟨fun a U g mk q => by obtain ⟨q0, qP, qK⟩ := q; exact ⟨q0, qP, va_K.moved (u := U) (U := U.calling g mk a) (Vm.Alike.refl U.vm) qK⟩, va_recv hK hP (ci := 0) (q0 := 0) rfl rfl, fun U hU hW => ⟨rfl, by rw [hU]; exact hP, va_K.moved hW.alike hK⟩⟩ rfl rfl hl.1 rfl (lv_room (Nat.le_of_ble_eq_true rfl)) dX0_count_39 ⟨Nat.zero_le _, Nat.zero_le _⟩) (fun r_1 hw => ?_)
    try dsimp only at hw
    exact W.iret (v := r_1) hx hb hr (fun t ht hW => ⟨_, rfl, hw, ht⟩) (fun q h => absurd h List.not_mem_nil) dX0_count_42
  replace hw := hw.2.2.2 hc0 hc1 hc2
  have hout : (x1).toInt < 0 ∨ 2 < (x1).toInt := sw_out (lo := 0) (n := 3) (fun k hk => by rcases (show k = 0 ∨ k = 1 ∨ k = 2 by omega) with rfl | rfl | rfl <;> assumption)
  refine lv_tableOut (tgt := 43) hx hb dX0_count_1 hout (by decide) ?_
  refine lv_iconst (v := (-1 : Int32)) hx hb dX0_count_43 (by decide) ?_
  exact W.iret (v := (-1 : Int32)) hx hb hr (fun t ht hW => ⟨_, rfl, hw, ht⟩) (fun q h => absurd h List.not_mem_nil) dX0_count_44
-- X0_trace
set_option maxHeartbeats 4000000 in
set_option maxRecDepth 100000 in
theorem cX_trace (l : Launch) (dC : Nat → ClassId) (dI : Nat → Nat → Nat) (h : Nat) (ad : Nat → Nat) (ca : Nat → ClassId) (tc cl : Int32) (tr : Int64) (g : Sg) (P : Int64 → Prop) (hw : wX_trace P tc cl tr g) : Met l yX0_trace wsX0_trace ({ frames := 0, cells := 0, slots := 0, locals := 0 }) (va_Pc [.ref h] (fun U => va_P (dC, dI) vwCl (XL h ad ca tc cl tr g) U.heap ∧ va_K (dC, dI) vwCl (XT ca) U)) (vp_Sl P) 0 0 (fun _ => False) := by
  refine Met.ofW (cc := cX0_trace) (maxL := 1) (ret := (some .long)) (by decide) rfl ?_
  intro p e s m args below meth c s₁ B0 hml hv
  obtain ⟨hargs, hP, hK⟩ := hv
  have hx := B0.exec
  have hb := B0.bytes
  have hr := B0.returns
  have hts := atoms_spec (ws := wsX0_trace) B0.pre
  have hown : s.vm.findClass RX0 = some m.cls := findClass_of_methodNamed B0.named
  have hlocks := B0.notSynchronized
  have inw : ∀ w ∈ wsX00, w ∈ wsX0_trace := fun w h => List.mem_cons_of_mem _ (List.mem_append_right _ h)
  have f96 : (Cond.fieldLink RX0 96 "FlipHeaps" "traced" "J").before args s = true := hts _ (by decide +kernel)
  subst hargs
  unfold wX_trace at hw
  have hl := lv_entry ([.ref h]) (n := 1) (Nat.le_of_ble_eq_true rfl)
  rw [lg_entry_eq]
  generalize (lg_sl ([.ref h]) ++ List.replicate (1 - (lg_sl ([.ref h])).length) Slot.unset).toArray = ls at hl ⊢
  have hl : lv_has ls 1 [(0, .ref h)] := hl
  refine lv_aload_n hx hb dX0_trace_0 rfl (lv_at hl 0 rfl) ?_
  refine va_get (D := (dC, dI)) (ci := 0) (C := RX0) (T := TX0) (N := 13) hx hb hts inw hown hK hP 0 rfl rfl 2 (by decide) f96 (fun _ h9 => h9) rfl dX0_trace_1 ?_
  exact W.lret (v := tr) hx hb hr (fun t ht hW => ⟨_, rfl, hw, ht⟩) (fun q h => absurd h List.not_mem_nil) dX0_trace_4
