section
-- ===== PART A: goes FIRST, ahead of the names: the tables' words, and 'selects' of the private methods out of them =====
/-- a private method of a class that the tables say can be made, by its rows of tables_1 -/
def lw_okq (q : MethodName × Nat) : Prop := (q.1.cls ≠ "java/lang/invoke/MethodHandle" ∧ q.1.cls ≠ "java/lang/invoke/VarHandle") ∧ Cond.instantiable q.1.cls q.2 ∈ tables_1 ∧ Cond.privateMethod q.1 ∈ tables_1 ∧ Cond.instanceMethod q.1 ∈ tables_1
theorem lw_p0 : lw_okq (⟨"FlipHeaps", "isThing", "(I)Z"⟩, 13) := ⟨⟨by decide +kernel, by decide +kernel⟩, List.mem_of_getElem? (i := 6) (by decide +kernel), List.mem_of_getElem? (i := 64) (by decide +kernel), List.mem_of_getElem? (i := 65) (by decide +kernel)⟩
theorem lw_p1 : lw_okq (⟨"FlipHeaps", "isSet", "(I)Z"⟩, 13) := ⟨⟨by decide +kernel, by decide +kernel⟩, List.mem_of_getElem? (i := 6) (by decide +kernel), List.mem_of_getElem? (i := 92) (by decide +kernel), List.mem_of_getElem? (i := 93) (by decide +kernel)⟩
theorem lw_p2 : lw_okq (⟨"FlipHeaps", "setCount", "()I"⟩, 13) := ⟨⟨by decide +kernel, by decide +kernel⟩, List.mem_of_getElem? (i := 6) (by decide +kernel), List.mem_of_getElem? (i := 96) (by decide +kernel), List.mem_of_getElem? (i := 97) (by decide +kernel)⟩
theorem lw_p3 : lw_okq (⟨"FlipHeaps", "isHeap", "(I)Z"⟩, 13) := ⟨⟨by decide +kernel, by decide +kernel⟩, List.mem_of_getElem? (i := 6) (by decide +kernel), List.mem_of_getElem? (i := 100) (by decide +kernel), List.mem_of_getElem? (i := 101) (by decide +kernel)⟩
theorem lw_p4 : lw_okq (⟨"FlipHeaps", "flipped", "(II)I"⟩, 13) := ⟨⟨by decide +kernel, by decide +kernel⟩, List.mem_of_getElem? (i := 6) (by decide +kernel), List.mem_of_getElem? (i := 112) (by decide +kernel), List.mem_of_getElem? (i := 113) (by decide +kernel)⟩
theorem lw_p5 : lw_okq (⟨"FlipHeaps", "turned", "(II)I"⟩, 13) := ⟨⟨by decide +kernel, by decide +kernel⟩, List.mem_of_getElem? (i := 6) (by decide +kernel), List.mem_of_getElem? (i := 126) (by decide +kernel), List.mem_of_getElem? (i := 127) (by decide +kernel)⟩
theorem lw_p6 : lw_okq (⟨"FlipHeaps", "turnedRound", "(I)I"⟩, 13) := ⟨⟨by decide +kernel, by decide +kernel⟩, List.mem_of_getElem? (i := 6) (by decide +kernel), List.mem_of_getElem? (i := 130) (by decide +kernel), List.mem_of_getElem? (i := 131) (by decide +kernel)⟩
theorem lw_p7 : lw_okq (⟨"FlipHeaps", "turnedByChain", "(I)I"⟩, 13) := ⟨⟨by decide +kernel, by decide +kernel⟩, List.mem_of_getElem? (i := 6) (by decide +kernel), List.mem_of_getElem? (i := 134) (by decide +kernel), List.mem_of_getElem? (i := 135) (by decide +kernel)⟩
theorem lw_p8 : lw_okq (⟨"FlipHeaps", "walkOrbit", "(II)I"⟩, 13) := ⟨⟨by decide +kernel, by decide +kernel⟩, List.mem_of_getElem? (i := 6) (by decide +kernel), List.mem_of_getElem? (i := 142) (by decide +kernel), List.mem_of_getElem? (i := 143) (by decide +kernel)⟩
theorem lw_p9 : lw_okq (⟨"FlipHeaps", "findOrbits", "(I)I"⟩, 13) := ⟨⟨by decide +kernel, by decide +kernel⟩, List.mem_of_getElem? (i := 6) (by decide +kernel), List.mem_of_getElem? (i := 150) (by decide +kernel), List.mem_of_getElem? (i := 151) (by decide +kernel)⟩
theorem lw_p10 : lw_okq (⟨"FlipHeaps", "orderOf", "(I)I"⟩, 13) := ⟨⟨by decide +kernel, by decide +kernel⟩, List.mem_of_getElem? (i := 6) (by decide +kernel), List.mem_of_getElem? (i := 154) (by decide +kernel), List.mem_of_getElem? (i := 155) (by decide +kernel)⟩
theorem lw_p11 : lw_okq (⟨"FlipHeaps", "longestOf", "(I)I"⟩, 13) := ⟨⟨by decide +kernel, by decide +kernel⟩, List.mem_of_getElem? (i := 6) (by decide +kernel), List.mem_of_getElem? (i := 165) (by decide +kernel), List.mem_of_getElem? (i := 166) (by decide +kernel)⟩
theorem lw_p12 : lw_okq (⟨"FlipHeaps", "measured", "(II)I"⟩, 13) := ⟨⟨by decide +kernel, by decide +kernel⟩, List.mem_of_getElem? (i := 6) (by decide +kernel), List.mem_of_getElem? (i := 179) (by decide +kernel), List.mem_of_getElem? (i := 180) (by decide +kernel)⟩
theorem lw_p13 : lw_okq (⟨"FlipHeaps", "edged", "(I)I"⟩, 13) := ⟨⟨by decide +kernel, by decide +kernel⟩, List.mem_of_getElem? (i := 6) (by decide +kernel), List.mem_of_getElem? (i := 183) (by decide +kernel), List.mem_of_getElem? (i := 184) (by decide +kernel)⟩
theorem lw_p14 : lw_okq (⟨"FlipHeaps", "weighed", "(I)I"⟩, 13) := ⟨⟨by decide +kernel, by decide +kernel⟩, List.mem_of_getElem? (i := 6) (by decide +kernel), List.mem_of_getElem? (i := 187) (by decide +kernel), List.mem_of_getElem? (i := 188) (by decide +kernel)⟩
theorem lw_p15 : lw_okq (⟨"FlipHeaps", "sumOfOrbit", "(IIII)I"⟩, 13) := ⟨⟨by decide +kernel, by decide +kernel⟩, List.mem_of_getElem? (i := 6) (by decide +kernel), List.mem_of_getElem? (i := 201) (by decide +kernel), List.mem_of_getElem? (i := 202) (by decide +kernel)⟩
def lw_privs_1 : List (MethodName × Nat) := [(⟨"FlipHeaps", "isThing", "(I)Z"⟩, 13), (⟨"FlipHeaps", "isSet", "(I)Z"⟩, 13), (⟨"FlipHeaps", "setCount", "()I"⟩, 13), (⟨"FlipHeaps", "isHeap", "(I)Z"⟩, 13), (⟨"FlipHeaps", "flipped", "(II)I"⟩, 13), (⟨"FlipHeaps", "turned", "(II)I"⟩, 13), (⟨"FlipHeaps", "turnedRound", "(I)I"⟩, 13), (⟨"FlipHeaps", "turnedByChain", "(I)I"⟩, 13), (⟨"FlipHeaps", "walkOrbit", "(II)I"⟩, 13), (⟨"FlipHeaps", "findOrbits", "(I)I"⟩, 13), (⟨"FlipHeaps", "orderOf", "(I)I"⟩, 13), (⟨"FlipHeaps", "longestOf", "(I)I"⟩, 13), (⟨"FlipHeaps", "measured", "(II)I"⟩, 13), (⟨"FlipHeaps", "edged", "(I)I"⟩, 13), (⟨"FlipHeaps", "weighed", "(I)I"⟩, 13), (⟨"FlipHeaps", "sumOfOrbit", "(IIII)I"⟩, 13)]
theorem lw_r1 : ∀ q ∈ lw_privs_1, lw_okq q := List.forall_mem_cons.mpr ⟨lw_p0, List.forall_mem_cons.mpr ⟨lw_p1, List.forall_mem_cons.mpr ⟨lw_p2, List.forall_mem_cons.mpr ⟨lw_p3, List.forall_mem_cons.mpr ⟨lw_p4, List.forall_mem_cons.mpr ⟨lw_p5, List.forall_mem_cons.mpr ⟨lw_p6, List.forall_mem_cons.mpr ⟨lw_p7, List.forall_mem_cons.mpr ⟨lw_p8, List.forall_mem_cons.mpr ⟨lw_p9, List.forall_mem_cons.mpr ⟨lw_p10, List.forall_mem_cons.mpr ⟨lw_p11, List.forall_mem_cons.mpr ⟨lw_p12, List.forall_mem_cons.mpr ⟨lw_p13, List.forall_mem_cons.mpr ⟨lw_p14, List.forall_mem_cons.mpr ⟨lw_p15, fun _ h => absurd h List.not_mem_nil⟩⟩⟩⟩⟩⟩⟩⟩⟩⟩⟩⟩⟩⟩⟩⟩
theorem lw_p16 : lw_okq (⟨"FlipHeaps", "extendRows", "()V"⟩, 13) := ⟨⟨by decide +kernel, by decide +kernel⟩, List.mem_of_getElem? (i := 6) (by decide +kernel), List.mem_of_getElem? (i := 219) (by decide +kernel), List.mem_of_getElem? (i := 220) (by decide +kernel)⟩
theorem lw_p17 : lw_okq (⟨"FlipHeaps", "readFilling", "(II)Z"⟩, 13) := ⟨⟨by decide +kernel, by decide +kernel⟩, List.mem_of_getElem? (i := 6) (by decide +kernel), List.mem_of_getElem? (i := 227) (by decide +kernel), List.mem_of_getElem? (i := 228) (by decide +kernel)⟩
theorem lw_p18 : lw_okq (⟨"FlipHeaps", "digitsFallUpwards", "()Z"⟩, 13) := ⟨⟨by decide +kernel, by decide +kernel⟩, List.mem_of_getElem? (i := 6) (by decide +kernel), List.mem_of_getElem? (i := 231) (by decide +kernel), List.mem_of_getElem? (i := 232) (by decide +kernel)⟩
theorem lw_p19 : lw_okq (⟨"FlipHeaps", "flipDigit", "(II)V"⟩, 13) := ⟨⟨by decide +kernel, by decide +kernel⟩, List.mem_of_getElem? (i := 6) (by decide +kernel), List.mem_of_getElem? (i := 235) (by decide +kernel), List.mem_of_getElem? (i := 236) (by decide +kernel)⟩
theorem lw_p20 : lw_okq (⟨"FlipHeaps", "numberOfDigits", "(I)I"⟩, 13) := ⟨⟨by decide +kernel, by decide +kernel⟩, List.mem_of_getElem? (i := 6) (by decide +kernel), List.mem_of_getElem? (i := 242) (by decide +kernel), List.mem_of_getElem? (i := 243) (by decide +kernel)⟩
theorem lw_p21 : lw_okq (⟨"FlipHeaps", "turnDigits", "(II)V"⟩, 13) := ⟨⟨by decide +kernel, by decide +kernel⟩, List.mem_of_getElem? (i := 6) (by decide +kernel), List.mem_of_getElem? (i := 250) (by decide +kernel), List.mem_of_getElem? (i := 251) (by decide +kernel)⟩
theorem lw_p22 : lw_okq (⟨"FlipHeaps", "countSizes", "()V"⟩, 13) := ⟨⟨by decide +kernel, by decide +kernel⟩, List.mem_of_getElem? (i := 6) (by decide +kernel), List.mem_of_getElem? (i := 262) (by decide +kernel), List.mem_of_getElem? (i := 263) (by decide +kernel)⟩
theorem lw_p23 : lw_okq (⟨"FlipHeaps", "sumAtRoot", "(II)I"⟩, 13) := ⟨⟨by decide +kernel, by decide +kernel⟩, List.mem_of_getElem? (i := 6) (by decide +kernel), List.mem_of_getElem? (i := 270) (by decide +kernel), List.mem_of_getElem? (i := 271) (by decide +kernel)⟩
theorem lw_p24 : lw_okq (⟨"FlipHeaps", "pairCount", "()I"⟩, 13) := ⟨⟨by decide +kernel, by decide +kernel⟩, List.mem_of_getElem? (i := 6) (by decide +kernel), List.mem_of_getElem? (i := 283) (by decide +kernel), List.mem_of_getElem? (i := 284) (by decide +kernel)⟩
theorem lw_p25 : lw_okq (⟨"FlipHeapsModel", "isThing", "(I)Z"⟩, 9) := ⟨⟨by decide +kernel, by decide +kernel⟩, List.mem_of_getElem? (i := 291) (by decide +kernel), List.mem_of_getElem? (i := 336) (by decide +kernel), List.mem_of_getElem? (i := 337) (by decide +kernel)⟩
theorem lw_p26 : lw_okq (⟨"FlipHeapsModel", "isHeap", "(I)Z"⟩, 9) := ⟨⟨by decide +kernel, by decide +kernel⟩, List.mem_of_getElem? (i := 291) (by decide +kernel), List.mem_of_getElem? (i := 361) (by decide +kernel), List.mem_of_getElem? (i := 362) (by decide +kernel)⟩
theorem lw_p27 : lw_okq (⟨"FlipHeapsModel", "flipped", "(II)I"⟩, 9) := ⟨⟨by decide +kernel, by decide +kernel⟩, List.mem_of_getElem? (i := 291) (by decide +kernel), List.mem_of_getElem? (i := 376) (by decide +kernel), List.mem_of_getElem? (i := 377) (by decide +kernel)⟩
theorem lw_p28 : lw_okq (⟨"FlipHeapsModel", "turned", "(II)I"⟩, 9) := ⟨⟨by decide +kernel, by decide +kernel⟩, List.mem_of_getElem? (i := 291) (by decide +kernel), List.mem_of_getElem? (i := 387) (by decide +kernel), List.mem_of_getElem? (i := 388) (by decide +kernel)⟩
theorem lw_p29 : lw_okq (⟨"FlipHeapsModel", "orbitOf", "(II)I"⟩, 9) := ⟨⟨by decide +kernel, by decide +kernel⟩, List.mem_of_getElem? (i := 291) (by decide +kernel), List.mem_of_getElem? (i := 395) (by decide +kernel), List.mem_of_getElem? (i := 396) (by decide +kernel)⟩
theorem lw_p30 : lw_okq (⟨"FlipHeapsModel", "measureOf", "(II)I"⟩, 9) := ⟨⟨by decide +kernel, by decide +kernel⟩, List.mem_of_getElem? (i := 291) (by decide +kernel), List.mem_of_getElem? (i := 413) (by decide +kernel), List.mem_of_getElem? (i := 414) (by decide +kernel)⟩
theorem lw_p31 : lw_okq (⟨"FlipHeapsModel", "sumOf", "(III)I"⟩, 9) := ⟨⟨by decide +kernel, by decide +kernel⟩, List.mem_of_getElem? (i := 291) (by decide +kernel), List.mem_of_getElem? (i := 421) (by decide +kernel), List.mem_of_getElem? (i := 422) (by decide +kernel)⟩
def lw_privs_2 : List (MethodName × Nat) := [(⟨"FlipHeaps", "extendRows", "()V"⟩, 13), (⟨"FlipHeaps", "readFilling", "(II)Z"⟩, 13), (⟨"FlipHeaps", "digitsFallUpwards", "()Z"⟩, 13), (⟨"FlipHeaps", "flipDigit", "(II)V"⟩, 13), (⟨"FlipHeaps", "numberOfDigits", "(I)I"⟩, 13), (⟨"FlipHeaps", "turnDigits", "(II)V"⟩, 13), (⟨"FlipHeaps", "countSizes", "()V"⟩, 13), (⟨"FlipHeaps", "sumAtRoot", "(II)I"⟩, 13), (⟨"FlipHeaps", "pairCount", "()I"⟩, 13), (⟨"FlipHeapsModel", "isThing", "(I)Z"⟩, 9), (⟨"FlipHeapsModel", "isHeap", "(I)Z"⟩, 9), (⟨"FlipHeapsModel", "flipped", "(II)I"⟩, 9), (⟨"FlipHeapsModel", "turned", "(II)I"⟩, 9), (⟨"FlipHeapsModel", "orbitOf", "(II)I"⟩, 9), (⟨"FlipHeapsModel", "measureOf", "(II)I"⟩, 9), (⟨"FlipHeapsModel", "sumOf", "(III)I"⟩, 9)]
theorem lw_r2 : ∀ q ∈ lw_privs_2, lw_okq q := List.forall_mem_cons.mpr ⟨lw_p16, List.forall_mem_cons.mpr ⟨lw_p17, List.forall_mem_cons.mpr ⟨lw_p18, List.forall_mem_cons.mpr ⟨lw_p19, List.forall_mem_cons.mpr ⟨lw_p20, List.forall_mem_cons.mpr ⟨lw_p21, List.forall_mem_cons.mpr ⟨lw_p22, List.forall_mem_cons.mpr ⟨lw_p23, List.forall_mem_cons.mpr ⟨lw_p24, List.forall_mem_cons.mpr ⟨lw_p25, List.forall_mem_cons.mpr ⟨lw_p26, List.forall_mem_cons.mpr ⟨lw_p27, List.forall_mem_cons.mpr ⟨lw_p28, List.forall_mem_cons.mpr ⟨lw_p29, List.forall_mem_cons.mpr ⟨lw_p30, List.forall_mem_cons.mpr ⟨lw_p31, fun _ h => absurd h List.not_mem_nil⟩⟩⟩⟩⟩⟩⟩⟩⟩⟩⟩⟩⟩⟩⟩⟩
theorem lw_p32 : lw_okq (⟨"FlipHeapsModel", "take", "(II)Z"⟩, 9) := ⟨⟨by decide +kernel, by decide +kernel⟩, List.mem_of_getElem? (i := 291) (by decide +kernel), List.mem_of_getElem? (i := 436) (by decide +kernel), List.mem_of_getElem? (i := 437) (by decide +kernel)⟩
theorem lw_p33 : lw_okq (⟨"FlipHeapsModel", "bends", "(II)V"⟩, 9) := ⟨⟨by decide +kernel, by decide +kernel⟩, List.mem_of_getElem? (i := 291) (by decide +kernel), List.mem_of_getElem? (i := 444) (by decide +kernel), List.mem_of_getElem? (i := 445) (by decide +kernel)⟩
theorem lw_p34 : lw_okq (⟨"FlipHeapsModel", "number", "(I)I"⟩, 9) := ⟨⟨by decide +kernel, by decide +kernel⟩, List.mem_of_getElem? (i := 291) (by decide +kernel), List.mem_of_getElem? (i := 448) (by decide +kernel), List.mem_of_getElem? (i := 449) (by decide +kernel)⟩
theorem lw_p35 : lw_okq (⟨"FlipHeapsModel", "rounds", "(II)V"⟩, 9) := ⟨⟨by decide +kernel, by decide +kernel⟩, List.mem_of_getElem? (i := 291) (by decide +kernel), List.mem_of_getElem? (i := 456) (by decide +kernel), List.mem_of_getElem? (i := 457) (by decide +kernel)⟩
theorem lw_p36 : lw_okq (⟨"FlipHeapsModel", "countOf", "(I)I"⟩, 9) := ⟨⟨by decide +kernel, by decide +kernel⟩, List.mem_of_getElem? (i := 291) (by decide +kernel), List.mem_of_getElem? (i := 468) (by decide +kernel), List.mem_of_getElem? (i := 469) (by decide +kernel)⟩
def lw_privs_3 : List (MethodName × Nat) := [(⟨"FlipHeapsModel", "take", "(II)Z"⟩, 9), (⟨"FlipHeapsModel", "bends", "(II)V"⟩, 9), (⟨"FlipHeapsModel", "number", "(I)I"⟩, 9), (⟨"FlipHeapsModel", "rounds", "(II)V"⟩, 9), (⟨"FlipHeapsModel", "countOf", "(I)I"⟩, 9)]
theorem lw_r3 : ∀ q ∈ lw_privs_3, lw_okq q := List.forall_mem_cons.mpr ⟨lw_p32, List.forall_mem_cons.mpr ⟨lw_p33, List.forall_mem_cons.mpr ⟨lw_p34, List.forall_mem_cons.mpr ⟨lw_p35, List.forall_mem_cons.mpr ⟨lw_p36, fun _ h => absurd h List.not_mem_nil⟩⟩⟩⟩⟩
def lw_privs : List (MethodName × Nat) := lw_privs_1 ++ (lw_privs_2 ++ (lw_privs_3))
def lw_tbl : List Cond := k2_sels lw_privs ++ tables_1
theorem lw_privs_ok : ∀ q ∈ lw_privs, lw_okq q := by
  show ∀ q ∈ lw_privs_1 ++ (lw_privs_2 ++ (lw_privs_3)), lw_okq q
  exact List.forall_mem_append.mpr ⟨lw_r1, List.forall_mem_append.mpr ⟨lw_r2, lw_r3⟩⟩
end
section
/-! ===== BEGIN words of one list among another's, by their places ===== -/
theorem goodIn_r {big : List Cond} (ws : List Cond) (ps : List Nat) (hp : ws = ps.filterMap (fun i => big[i]?)) (h : ws.all goodWord = true) : GoodIn big ws := by
  intro w hw
  have h1 := List.all_eq_true.mp h w hw
  rw [hp] at hw
  obtain ⟨i, -, hi⟩ := List.mem_filterMap.mp hw
  have hm : w ∈ big := by first | exact List.mem_of_getElem? hi | exact List.getElem?_mem hi
  exact ⟨hm, good_of_word h1⟩
theorem goodIn_app {big a b : List Cond} (ha : GoodIn big a) (hb : GoodIn big b) : GoodIn big (a ++ b) := fun w h => (List.mem_append.mp h).elim (ha w) (hb w)
theorem goodIn_ca {big a b : List Cond} {c : Cond} (ha : GoodIn big (c :: a)) (hb : GoodIn big b) : GoodIn big (c :: (a ++ b)) := fun w h => (List.mem_cons.mp h).elim (fun e => ha w (List.mem_cons.mpr (Or.inl e))) (fun h => (List.mem_append.mp h).elim (fun h => ha w (List.mem_cons.mpr (Or.inr h))) (hb w))
theorem goodIn_sub {big ws : List Cond} (hm : ∀ w ∈ ws, w ∈ big) (h : ws.all goodWord = true) : GoodIn big ws := fun w hw => ⟨hm w hw, good_of_word (List.all_eq_true.mp h w hw)⟩
/-! ===== END ===== -/

/-! ===== BEGIN printed: names, fields, word lists, decode rows ===== -/
def RX0 : String := "FlipHeaps"
def TX0 : u_T := fun k => match k with
  | 0 => ("FlipHeaps", "thingCount", "I", false)
  | 1 => ("FlipHeaps", "chainLength", "I", false)
  | 2 => ("FlipHeaps", "traced", "J", false)
  | 3 => ("FlipHeaps", "under", "[I", true)
  | 4 => ("FlipHeaps", "over", "[I", true)
  | 5 => ("FlipHeaps", "weights", "[I", true)
  | 6 => ("FlipHeaps", "chain", "[I", true)
  | 7 => ("FlipHeaps", "digits", "[I", true)
  | 8 => ("FlipHeaps", "sizes", "[I", true)
  | 9 => ("FlipHeaps", "ways", "[I", true)
  | 10 => ("FlipHeaps", "starts", "[I", true)
  | 11 => ("FlipHeaps", "lengths", "[I", true)
  | _ => ("FlipHeaps", "seen", "[Z", true)
def tyX0 : Nat → FieldType := fun k => match k with
  | 0 => .int
  | 1 => .int
  | 2 => .long
  | 3 => .array .int
  | 4 => .array .int
  | 5 => .array .int
  | 6 => .array .int
  | 7 => .array .int
  | 8 => .array .int
  | 9 => .array .int
  | 10 => .array .int
  | 11 => .array .int
  | _ => .array .boolean
abbrev wsX00 : List Cond := u_ws RX0 TX0 13
theorem nmX0 : ∀ a, a < 13 → ∀ b, b < 13 → a ≠ b → (TX0 a).2.1 ≠ (TX0 b).2.1 := by decide +kernel
theorem tyX0_ok : ∀ k, k < 13 → parseFieldDescriptor (TX0 k).2.2.1 = some (tyX0 k) := by decide +kernel
abbrev cX0_init : ByteArray := prog_1_method_1_code
def yX0_init : MethodName := ⟨RX0, "<init>", "()V"⟩
abbrev cX0_things : ByteArray := prog_1_method_2_code
def yX0_things : MethodName := ⟨RX0, "things", "(I)I"⟩
abbrev cX0_lay : ByteArray := prog_1_method_3_code
def yX0_lay : MethodName := ⟨RX0, "lay", "(II)I"⟩
abbrev cX0_below : ByteArray := prog_1_method_4_code
def yX0_below : MethodName := ⟨RX0, "below", "(II)I"⟩
abbrev cX0_weight : ByteArray := prog_1_method_5_code
def yX0_weight : MethodName := ⟨RX0, "weight", "(II)I"⟩
abbrev cX0_say : ByteArray := prog_1_method_6_code
def yX0_say : MethodName := ⟨RX0, "say", "(I)I"⟩
abbrev cX0_hush : ByteArray := prog_1_method_7_code
def yX0_hush : MethodName := ⟨RX0, "hush", "()I"⟩
abbrev cX0_heap : ByteArray := prog_1_method_8_code
def yX0_heap : MethodName := ⟨RX0, "heap", "(I)I"⟩
abbrev cX0_many : ByteArray := prog_1_method_9_code
def yX0_many : MethodName := ⟨RX0, "many", "()I"⟩
abbrev cX0_flip : ByteArray := prog_1_method_10_code
def yX0_flip : MethodName := ⟨RX0, "flip", "(II)I"⟩
abbrev cX0_turn : ByteArray := prog_1_method_11_code
def yX0_turn : MethodName := ⟨RX0, "turn", "(III)I"⟩
abbrev cX0_orbit : ByteArray := prog_1_method_12_code
def yX0_orbit : MethodName := ⟨RX0, "orbit", "(II)I"⟩
abbrev cX0_orbits : ByteArray := prog_1_method_13_code
def yX0_orbits : MethodName := ⟨RX0, "orbits", "(II)I"⟩
abbrev cX0_measure : ByteArray := prog_1_method_14_code
def yX0_measure : MethodName := ⟨RX0, "measure", "(II)I"⟩
abbrev cX0_mean : ByteArray := prog_1_method_15_code
def yX0_mean : MethodName := ⟨RX0, "mean", "(IIII)I"⟩
abbrev cX0_even : ByteArray := prog_1_method_16_code
def yX0_even : MethodName := ⟨RX0, "even", "(II)I"⟩
abbrev cX0_fillings : ByteArray := prog_1_method_17_code
def yX0_fillings : MethodName := ⟨RX0, "fillings", "(I)I"⟩
abbrev cX0_bend : ByteArray := prog_1_method_18_code
def yX0_bend : MethodName := ⟨RX0, "bend", "(III)I"⟩
abbrev cX0_round : ByteArray := prog_1_method_19_code
def yX0_round : MethodName := ⟨RX0, "round", "(III)I"⟩
abbrev cX0_period : ByteArray := prog_1_method_20_code
def yX0_period : MethodName := ⟨RX0, "period", "(III)I"⟩
abbrev cX0_counts : ByteArray := prog_1_method_21_code
def yX0_counts : MethodName := ⟨RX0, "counts", "(I)I"⟩
abbrev cX0_at : ByteArray := prog_1_method_22_code
def yX0_at : MethodName := ⟨RX0, "at", "(I)I"⟩
abbrev cX0_stays : ByteArray := prog_1_method_23_code
def yX0_stays : MethodName := ⟨RX0, "stays", "(II)I"⟩
abbrev cX0_count : ByteArray := prog_1_method_24_code
def yX0_count : MethodName := ⟨RX0, "count", "(I)I"⟩
abbrev cX0_trace : ByteArray := prog_1_method_25_code
def yX0_trace : MethodName := ⟨RX0, "trace", "()J"⟩
abbrev cX0_isThing : ByteArray := prog_1_method_26_code
def yX0_isThing : MethodName := ⟨RX0, "isThing", "(I)Z"⟩
abbrev cX0_isSet : ByteArray := prog_1_method_27_code
def yX0_isSet : MethodName := ⟨RX0, "isSet", "(I)Z"⟩
abbrev cX0_isTurnKind : ByteArray := prog_1_method_28_code
def yX0_isTurnKind : MethodName := ⟨RX0, "isTurnKind", "(I)Z"⟩
abbrev cX0_isMeasureKind : ByteArray := prog_1_method_29_code
def yX0_isMeasureKind : MethodName := ⟨RX0, "isMeasureKind", "(I)Z"⟩
abbrev cX0_isTurnNumber : ByteArray := prog_1_method_30_code
def yX0_isTurnNumber : MethodName := ⟨RX0, "isTurnNumber", "(I)Z"⟩
abbrev cX0_isHeight : ByteArray := prog_1_method_31_code
def yX0_isHeight : MethodName := ⟨RX0, "isHeight", "(I)Z"⟩
abbrev cX0_setCount : ByteArray := prog_1_method_32_code
def yX0_setCount : MethodName := ⟨RX0, "setCount", "()I"⟩
abbrev cX0_has : ByteArray := prog_1_method_33_code
def yX0_has : MethodName := ⟨RX0, "has", "(II)Z"⟩
abbrev cX0_isHeap : ByteArray := prog_1_method_34_code
def yX0_isHeap : MethodName := ⟨RX0, "isHeap", "(I)Z"⟩
abbrev cX0_flipped : ByteArray := prog_1_method_35_code
def yX0_flipped : MethodName := ⟨RX0, "flipped", "(II)I"⟩
abbrev cX0_turned : ByteArray := prog_1_method_36_code
def yX0_turned : MethodName := ⟨RX0, "turned", "(II)I"⟩
abbrev cX0_turnedRound : ByteArray := prog_1_method_37_code
def yX0_turnedRound : MethodName := ⟨RX0, "turnedRound", "(I)I"⟩
abbrev cX0_turnedByChain : ByteArray := prog_1_method_38_code
def yX0_turnedByChain : MethodName := ⟨RX0, "turnedByChain", "(I)I"⟩
abbrev cX0_pairCount : ByteArray := prog_1_method_39_code
def yX0_pairCount : MethodName := ⟨RX0, "pairCount", "()I"⟩
abbrev cX0_countSizes : ByteArray := prog_1_method_40_code
def yX0_countSizes : MethodName := ⟨RX0, "countSizes", "()V"⟩
abbrev cX0_walkOrbit : ByteArray := prog_1_method_41_code
def yX0_walkOrbit : MethodName := ⟨RX0, "walkOrbit", "(II)I"⟩
abbrev cX0_findOrbits : ByteArray := prog_1_method_42_code
def yX0_findOrbits : MethodName := ⟨RX0, "findOrbits", "(I)I"⟩
abbrev cX0_orderOf : ByteArray := prog_1_method_43_code
def yX0_orderOf : MethodName := ⟨RX0, "orderOf", "(I)I"⟩
abbrev cX0_longestOf : ByteArray := prog_1_method_44_code
def yX0_longestOf : MethodName := ⟨RX0, "longestOf", "(I)I"⟩
abbrev cX0_commonDivisor : ByteArray := prog_1_method_45_code
def yX0_commonDivisor : MethodName := ⟨RX0, "commonDivisor", "(II)I"⟩
abbrev cX0_traceOf : ByteArray := prog_1_method_46_code
def yX0_traceOf : MethodName := ⟨RX0, "traceOf", "(I)I"⟩
abbrev cX0_measured : ByteArray := prog_1_method_47_code
def yX0_measured : MethodName := ⟨RX0, "measured", "(II)I"⟩
abbrev cX0_weighed : ByteArray := prog_1_method_48_code
def yX0_weighed : MethodName := ⟨RX0, "weighed", "(I)I"⟩
abbrev cX0_edged : ByteArray := prog_1_method_49_code
def yX0_edged : MethodName := ⟨RX0, "edged", "(I)I"⟩
abbrev cX0_sumOfOrbit : ByteArray := prog_1_method_50_code
def yX0_sumOfOrbit : MethodName := ⟨RX0, "sumOfOrbit", "(IIII)I"⟩
abbrev cX0_extendRows : ByteArray := prog_1_method_51_code
def yX0_extendRows : MethodName := ⟨RX0, "extendRows", "()V"⟩
abbrev cX0_readFilling : ByteArray := prog_1_method_52_code
def yX0_readFilling : MethodName := ⟨RX0, "readFilling", "(II)Z"⟩
abbrev cX0_digitsFallUpwards : ByteArray := prog_1_method_53_code
def yX0_digitsFallUpwards : MethodName := ⟨RX0, "digitsFallUpwards", "()Z"⟩
abbrev cX0_numberOfDigits : ByteArray := prog_1_method_54_code
def yX0_numberOfDigits : MethodName := ⟨RX0, "numberOfDigits", "(I)I"⟩
abbrev cX0_flipDigit : ByteArray := prog_1_method_55_code
def yX0_flipDigit : MethodName := ⟨RX0, "flipDigit", "(II)V"⟩
abbrev cX0_turnDigits : ByteArray := prog_1_method_56_code
def yX0_turnDigits : MethodName := ⟨RX0, "turnDigits", "(II)V"⟩
abbrev cX0_sumAtRoot : ByteArray := prog_1_method_57_code
def yX0_sumAtRoot : MethodName := ⟨RX0, "sumAtRoot", "(II)I"⟩
def RX1 : String := "FlipHeapsModel"
def TX1 : u_T := fun k => match k with
  | 0 => ("FlipHeapsModel", "things", "I", false)
  | 1 => ("FlipHeapsModel", "isBelow", "[Z", true)
  | 2 => ("FlipHeapsModel", "weight", "[I", true)
  | 3 => ("FlipHeapsModel", "word", "[I", true)
  | 4 => ("FlipHeapsModel", "said", "I", false)
  | 5 => ("FlipHeapsModel", "trace", "J", false)
  | 6 => ("FlipHeapsModel", "isMet", "[Z", true)
  | 7 => ("FlipHeapsModel", "digit", "[I", true)
  | _ => ("FlipHeapsModel", "rest", "[I", true)
def tyX1 : Nat → FieldType := fun k => match k with
  | 0 => .int
  | 1 => .array .boolean
  | 2 => .array .int
  | 3 => .array .int
  | 4 => .int
  | 5 => .long
  | 6 => .array .boolean
  | 7 => .array .int
  | _ => .array .int
abbrev wsX10 : List Cond := u_ws RX1 TX1 9
theorem nmX1 : ∀ a, a < 9 → ∀ b, b < 9 → a ≠ b → (TX1 a).2.1 ≠ (TX1 b).2.1 := by decide +kernel
theorem tyX1_ok : ∀ k, k < 9 → parseFieldDescriptor (TX1 k).2.2.1 = some (tyX1 k) := by decide +kernel
abbrev cX1_init : ByteArray := prog_3_method_1_code
def yX1_init : MethodName := ⟨RX1, "<init>", "()V"⟩
abbrev cX1_in : ByteArray := prog_3_method_3_code
def yX1_in : MethodName := ⟨RX1, "in", "(III)Z"⟩
abbrev cX1_isThing : ByteArray := prog_3_method_4_code
def yX1_isThing : MethodName := ⟨RX1, "isThing", "(I)Z"⟩
abbrev cX1_things : ByteArray := prog_3_method_5_code
def yX1_things : MethodName := ⟨RX1, "things", "(I)I"⟩
abbrev cX1_lay : ByteArray := prog_3_method_6_code
def yX1_lay : MethodName := ⟨RX1, "lay", "(II)I"⟩
abbrev cX1_below : ByteArray := prog_3_method_7_code
def yX1_below : MethodName := ⟨RX1, "below", "(II)I"⟩
abbrev cX1_weight : ByteArray := prog_3_method_8_code
def yX1_weight : MethodName := ⟨RX1, "weight", "(II)I"⟩
abbrev cX1_say : ByteArray := prog_3_method_9_code
def yX1_say : MethodName := ⟨RX1, "say", "(I)I"⟩
abbrev cX1_hush : ByteArray := prog_3_method_10_code
def yX1_hush : MethodName := ⟨RX1, "hush", "()I"⟩
abbrev cX1_has : ByteArray := prog_3_method_11_code
def yX1_has : MethodName := ⟨RX1, "has", "(II)Z"⟩
abbrev cX1_isHeap : ByteArray := prog_3_method_12_code
def yX1_isHeap : MethodName := ⟨RX1, "isHeap", "(I)Z"⟩
abbrev cX1_heap : ByteArray := prog_3_method_13_code
def yX1_heap : MethodName := ⟨RX1, "heap", "(I)I"⟩
abbrev cX1_many : ByteArray := prog_3_method_14_code
def yX1_many : MethodName := ⟨RX1, "many", "()I"⟩
abbrev cX1_flipped : ByteArray := prog_3_method_15_code
def yX1_flipped : MethodName := ⟨RX1, "flipped", "(II)I"⟩
abbrev cX1_flip : ByteArray := prog_3_method_16_code
def yX1_flip : MethodName := ⟨RX1, "flip", "(II)I"⟩
abbrev cX1_turned : ByteArray := prog_3_method_17_code
def yX1_turned : MethodName := ⟨RX1, "turned", "(II)I"⟩
abbrev cX1_isKind : ByteArray := prog_3_method_18_code
def yX1_isKind : MethodName := ⟨RX1, "isKind", "(I)Z"⟩
abbrev cX1_turn : ByteArray := prog_3_method_19_code
def yX1_turn : MethodName := ⟨RX1, "turn", "(III)I"⟩
abbrev cX1_orbitOf : ByteArray := prog_3_method_20_code
def yX1_orbitOf : MethodName := ⟨RX1, "orbitOf", "(II)I"⟩
abbrev cX1_orbit : ByteArray := prog_3_method_21_code
def yX1_orbit : MethodName := ⟨RX1, "orbit", "(II)I"⟩
abbrev cX1_common : ByteArray := prog_3_method_22_code
def yX1_common : MethodName := ⟨RX1, "common", "(JJ)J"⟩
abbrev cX1_orbits : ByteArray := prog_3_method_23_code
def yX1_orbits : MethodName := ⟨RX1, "orbits", "(II)I"⟩
abbrev cX1_measureOf : ByteArray := prog_3_method_24_code
def yX1_measureOf : MethodName := ⟨RX1, "measureOf", "(II)I"⟩
abbrev cX1_measure : ByteArray := prog_3_method_25_code
def yX1_measure : MethodName := ⟨RX1, "measure", "(II)I"⟩
abbrev cX1_sumOf : ByteArray := prog_3_method_26_code
def yX1_sumOf : MethodName := ⟨RX1, "sumOf", "(III)I"⟩
abbrev cX1_mean : ByteArray := prog_3_method_27_code
def yX1_mean : MethodName := ⟨RX1, "mean", "(IIII)I"⟩
abbrev cX1_even : ByteArray := prog_3_method_28_code
def yX1_even : MethodName := ⟨RX1, "even", "(II)I"⟩
abbrev cX1_take : ByteArray := prog_3_method_29_code
def yX1_take : MethodName := ⟨RX1, "take", "(II)Z"⟩
abbrev cX1_number : ByteArray := prog_3_method_30_code
def yX1_number : MethodName := ⟨RX1, "number", "(I)I"⟩
abbrev cX1_bends : ByteArray := prog_3_method_31_code
def yX1_bends : MethodName := ⟨RX1, "bends", "(II)V"⟩
abbrev cX1_rounds : ByteArray := prog_3_method_32_code
def yX1_rounds : MethodName := ⟨RX1, "rounds", "(II)V"⟩
abbrev cX1_isHeight : ByteArray := prog_3_method_33_code
def yX1_isHeight : MethodName := ⟨RX1, "isHeight", "(I)Z"⟩
abbrev cX1_fillings : ByteArray := prog_3_method_34_code
def yX1_fillings : MethodName := ⟨RX1, "fillings", "(I)I"⟩
abbrev cX1_bend : ByteArray := prog_3_method_35_code
def yX1_bend : MethodName := ⟨RX1, "bend", "(III)I"⟩
abbrev cX1_round : ByteArray := prog_3_method_36_code
def yX1_round : MethodName := ⟨RX1, "round", "(III)I"⟩
abbrev cX1_period : ByteArray := prog_3_method_37_code
def yX1_period : MethodName := ⟨RX1, "period", "(III)I"⟩
abbrev cX1_countOf : ByteArray := prog_3_method_38_code
def yX1_countOf : MethodName := ⟨RX1, "countOf", "(I)I"⟩
abbrev cX1_counts : ByteArray := prog_3_method_39_code
def yX1_counts : MethodName := ⟨RX1, "counts", "(I)I"⟩
abbrev cX1_at : ByteArray := prog_3_method_40_code
def yX1_at : MethodName := ⟨RX1, "at", "(I)I"⟩
abbrev cX1_stays : ByteArray := prog_3_method_41_code
def yX1_stays : MethodName := ⟨RX1, "stays", "(II)I"⟩
abbrev cX1_count : ByteArray := prog_3_method_42_code
def yX1_count : MethodName := ⟨RX1, "count", "(I)I"⟩
abbrev cX1_trace : ByteArray := prog_3_method_43_code
def yX1_trace : MethodName := ⟨RX1, "trace", "()J"⟩
def RJ6 : String := "java/lang/Integer"
def TJ6 : u_T := fun k => match k with
  | _ => ("", "", "", false)
def tyJ6 : Nat → FieldType := fun k => match k with
  | _ => .int
abbrev wsJ60 : List Cond := u_ws RJ6 TJ6 0
theorem nmJ6 : ∀ a, a < 0 → ∀ b, b < 0 → a ≠ b → (TJ6 a).2.1 ≠ (TJ6 b).2.1 := by decide +kernel
theorem tyJ6_ok : ∀ k, k < 0 → parseFieldDescriptor (TJ6 k).2.2.1 = some (tyJ6 k) := by decide +kernel
abbrev cJ6_bitCount_0f7a4 : ByteArray := prog_4_method_49_code
def yJ6_bitCount_0f7a4 : MethodName := ⟨RJ6, "bitCount", "(I)I"⟩
def RJ9 : String := "java/lang/Math"
def TJ9 : u_T := fun k => match k with
  | _ => ("", "", "", false)
def tyJ9 : Nat → FieldType := fun k => match k with
  | _ => .int
abbrev wsJ90 : List Cond := u_ws RJ9 TJ9 0
theorem nmJ9 : ∀ a, a < 0 → ∀ b, b < 0 → a ≠ b → (TJ9 a).2.1 ≠ (TJ9 b).2.1 := by decide +kernel
theorem tyJ9_ok : ∀ k, k < 0 → parseFieldDescriptor (TJ9 k).2.2.1 = some (tyJ9 k) := by decide +kernel
abbrev cJ9_abs_0f7a4 : ByteArray := prog_5_method_59_code
def yJ9_abs_0f7a4 : MethodName := ⟨RJ9, "abs", "(I)I"⟩
abbrev cJ9_max_7cf53 : ByteArray := prog_5_method_65_code
def yJ9_max_7cf53 : MethodName := ⟨RJ9, "max", "(II)I"⟩
abbrev cJ9_min_7cf53 : ByteArray := prog_5_method_69_code
def yJ9_min_7cf53 : MethodName := ⟨RJ9, "min", "(II)I"⟩
def RL : String := "FlipHeapsLaw"
abbrev cL_law : ByteArray := code
def yL_law : MethodName := ⟨RL, "law", "([I)Z"⟩
def wsX0_init : List Cond := .code yX0_init cX0_init 1 none :: ([.methodLink RX0 1 objectInit, .instanceMethod objectInit, .code objectInit ⟨#[0xb1]⟩ 1 none, .fieldLink RX0 9 "FlipHeaps" "thingCount" "I", .arrayClass .int, .fieldLink RX0 13 "FlipHeaps" "under" "[I", .fieldLink RX0 17 "FlipHeaps" "over" "[I", .fieldLink RX0 20 "FlipHeaps" "weights" "[I", .fieldLink RX0 23 "FlipHeaps" "chain" "[I", .fieldLink RX0 26 "FlipHeaps" "digits" "[I", .fieldLink RX0 29 "FlipHeaps" "sizes" "[I", .fieldLink RX0 32 "FlipHeaps" "ways" "[I", .fieldLink RX0 35 "FlipHeaps" "starts" "[I", .fieldLink RX0 38 "FlipHeaps" "lengths" "[I", .arrayClass .boolean, .fieldLink RX0 41 "FlipHeaps" "seen" "[Z"] ++ wsX00)
def wsX0_things : List Cond := .code yX0_things cX0_things 4 (some .int) :: ([.fieldLink RX0 9 "FlipHeaps" "thingCount" "I", .fieldLink RX0 13 "FlipHeaps" "under" "[I", .fieldLink RX0 17 "FlipHeaps" "over" "[I", .fieldLink RX0 20 "FlipHeaps" "weights" "[I", .fieldLink RX0 45 "FlipHeaps" "chainLength" "I"] ++ wsX00)
def wsX0_isThing : List Cond := .code yX0_isThing cX0_isThing 2 (some .boolean) :: ([.fieldLink RX0 9 "FlipHeaps" "thingCount" "I"] ++ wsX00)
def wsX0_has : List Cond := .code yX0_has cX0_has 2 (some .boolean) :: ([])
def wsX0_lay : List Cond := .code yX0_lay cX0_lay 6 (some .int) :: ([.fieldLink RX0 13 "FlipHeaps" "under" "[I", .fieldLink RX0 17 "FlipHeaps" "over" "[I", .fieldLink RX0 9 "FlipHeaps" "thingCount" "I", .methodLink RX0 48 yX0_isThing, .instanceMethod yX0_isThing, .selects RX0 yX0_isThing yX0_isThing, .initialized RX0, .code yX0_isThing cX0_isThing 2 (some .boolean), .methodLink RX0 52 yX0_has, .static yX0_has, .code yX0_has cX0_has 2 (some .boolean)] ++ wsX00)
def wsX0_below : List Cond := .code yX0_below cX0_below 3 (some .int) :: ([.fieldLink RX0 13 "FlipHeaps" "under" "[I", .methodLink RX0 48 yX0_isThing, .instanceMethod yX0_isThing, .selects RX0 yX0_isThing yX0_isThing, .initialized RX0, .code yX0_isThing cX0_isThing 2 (some .boolean), .fieldLink RX0 9 "FlipHeaps" "thingCount" "I", .methodLink RX0 52 yX0_has, .static yX0_has, .code yX0_has cX0_has 2 (some .boolean)] ++ wsX00)
def wsX0_weight : List Cond := .code yX0_weight cX0_weight 4 (some .int) :: ([.constant RX0 56 (-1000000), .fieldLink RX0 20 "FlipHeaps" "weights" "[I", .methodLink RX0 48 yX0_isThing, .instanceMethod yX0_isThing, .selects RX0 yX0_isThing yX0_isThing, .initialized RX0, .code yX0_isThing cX0_isThing 2 (some .boolean), .fieldLink RX0 9 "FlipHeaps" "thingCount" "I"] ++ wsX00)
def wsX0_say : List Cond := .code yX0_say cX0_say 2 (some .int) :: ([.fieldLink RX0 45 "FlipHeaps" "chainLength" "I", .fieldLink RX0 23 "FlipHeaps" "chain" "[I", .methodLink RX0 48 yX0_isThing, .instanceMethod yX0_isThing, .selects RX0 yX0_isThing yX0_isThing, .initialized RX0, .code yX0_isThing cX0_isThing 2 (some .boolean), .fieldLink RX0 9 "FlipHeaps" "thingCount" "I"] ++ wsX00)
def wsX0_hush : List Cond := .code yX0_hush cX0_hush 2 (some .int) :: ([.fieldLink RX0 45 "FlipHeaps" "chainLength" "I"] ++ wsX00)
def wsX0_setCount : List Cond := .code yX0_setCount cX0_setCount 1 (some .int) :: ([.fieldLink RX0 9 "FlipHeaps" "thingCount" "I"] ++ wsX00)
def wsX0_isSet : List Cond := .code yX0_isSet cX0_isSet 2 (some .boolean) :: ([.methodLink RX0 63 yX0_setCount, .instanceMethod yX0_setCount, .selects RX0 yX0_setCount yX0_setCount, .initialized RX0, .code yX0_setCount cX0_setCount 1 (some .int), .fieldLink RX0 9 "FlipHeaps" "thingCount" "I"] ++ wsX00)
def wsX0_isHeap : List Cond := .code yX0_isHeap cX0_isHeap 3 (some .boolean) :: ([.fieldLink RX0 9 "FlipHeaps" "thingCount" "I", .fieldLink RX0 13 "FlipHeaps" "under" "[I", .methodLink RX0 57 yX0_isSet, .instanceMethod yX0_isSet, .selects RX0 yX0_isSet yX0_isSet, .initialized RX0, .code yX0_isSet cX0_isSet 2 (some .boolean), .methodLink RX0 63 yX0_setCount, .instanceMethod yX0_setCount, .selects RX0 yX0_setCount yX0_setCount, .code yX0_setCount cX0_setCount 1 (some .int), .methodLink RX0 52 yX0_has, .static yX0_has, .code yX0_has cX0_has 2 (some .boolean)] ++ wsX00)
def wsX0_heap : List Cond := .code yX0_heap cX0_heap 2 (some .int) :: ([.methodLink RX0 57 yX0_isSet, .instanceMethod yX0_isSet, .selects RX0 yX0_isSet yX0_isSet, .initialized RX0, .code yX0_isSet cX0_isSet 2 (some .boolean), .methodLink RX0 63 yX0_setCount, .instanceMethod yX0_setCount, .selects RX0 yX0_setCount yX0_setCount, .code yX0_setCount cX0_setCount 1 (some .int), .fieldLink RX0 9 "FlipHeaps" "thingCount" "I", .methodLink RX0 60 yX0_isHeap, .instanceMethod yX0_isHeap, .selects RX0 yX0_isHeap yX0_isHeap, .code yX0_isHeap cX0_isHeap 3 (some .boolean), .fieldLink RX0 13 "FlipHeaps" "under" "[I", .methodLink RX0 52 yX0_has, .static yX0_has, .code yX0_has cX0_has 2 (some .boolean)] ++ wsX00)
def wsX0_many : List Cond := .code yX0_many cX0_many 3 (some .int) :: ([.methodLink RX0 63 yX0_setCount, .instanceMethod yX0_setCount, .selects RX0 yX0_setCount yX0_setCount, .initialized RX0, .code yX0_setCount cX0_setCount 1 (some .int), .fieldLink RX0 9 "FlipHeaps" "thingCount" "I", .methodLink RX0 60 yX0_isHeap, .instanceMethod yX0_isHeap, .selects RX0 yX0_isHeap yX0_isHeap, .code yX0_isHeap cX0_isHeap 3 (some .boolean), .fieldLink RX0 13 "FlipHeaps" "under" "[I", .methodLink RX0 57 yX0_isSet, .instanceMethod yX0_isSet, .selects RX0 yX0_isSet yX0_isSet, .code yX0_isSet cX0_isSet 2 (some .boolean), .methodLink RX0 52 yX0_has, .static yX0_has, .code yX0_has cX0_has 2 (some .boolean)] ++ wsX00)
def wsX0_flipped : List Cond := .code yX0_flipped cX0_flipped 4 (some .int) :: ([.fieldLink RX0 17 "FlipHeaps" "over" "[I", .fieldLink RX0 13 "FlipHeaps" "under" "[I", .methodLink RX0 52 yX0_has, .static yX0_has, .initialized RX0, .code yX0_has cX0_has 2 (some .boolean)] ++ wsX00)
def wsX0_flip_r1 : List Cond := [Cond.methodLink RX0 60 yX0_isHeap, Cond.instanceMethod yX0_isHeap, Cond.selects RX0 yX0_isHeap yX0_isHeap, Cond.initialized RX0, Cond.code yX0_isHeap cX0_isHeap 3 (some .boolean), Cond.fieldLink RX0 9 "FlipHeaps" "thingCount" "I", Cond.fieldLink RX0 13 "FlipHeaps" "under" "[I", Cond.methodLink RX0 57 yX0_isSet, Cond.instanceMethod yX0_isSet, Cond.selects RX0 yX0_isSet yX0_isSet, Cond.code yX0_isSet cX0_isSet 2 (some .boolean), Cond.methodLink RX0 63 yX0_setCount, Cond.instanceMethod yX0_setCount, Cond.selects RX0 yX0_setCount yX0_setCount, Cond.code yX0_setCount cX0_setCount 1 (some .int), Cond.methodLink RX0 52 yX0_has, Cond.static yX0_has, Cond.code yX0_has cX0_has 2 (some .boolean), Cond.methodLink RX0 48 yX0_isThing, Cond.instanceMethod yX0_isThing, Cond.selects RX0 yX0_isThing yX0_isThing, Cond.code yX0_isThing cX0_isThing 2 (some .boolean), Cond.methodLink RX0 67 yX0_flipped, Cond.instanceMethod yX0_flipped]
def wsX0_flip_r2 : List Cond := [Cond.selects RX0 yX0_flipped yX0_flipped, Cond.code yX0_flipped cX0_flipped 4 (some .int), Cond.fieldLink RX0 17 "FlipHeaps" "over" "[I"]
def wsX0_flip : List Cond := .code yX0_flip cX0_flip 3 (some .int) :: ((wsX0_flip_r1 ++ wsX0_flip_r2) ++ wsX00)
def wsX0_isTurnKind : List Cond := .code yX0_isTurnKind cX0_isTurnKind 1 (some .boolean) :: ([])
def wsX0_isTurnNumber : List Cond := .code yX0_isTurnNumber cX0_isTurnNumber 1 (some .boolean) :: ([])
def wsX0_turnedRound : List Cond := .code yX0_turnedRound cX0_turnedRound 4 (some .int) :: ([.fieldLink RX0 9 "FlipHeaps" "thingCount" "I", .fieldLink RX0 13 "FlipHeaps" "under" "[I", .methodLink RX0 52 yX0_has, .static yX0_has, .initialized RX0, .code yX0_has cX0_has 2 (some .boolean)] ++ wsX00)
def wsX0_turnedByChain : List Cond := .code yX0_turnedByChain cX0_turnedByChain 4 (some .int) :: ([.fieldLink RX0 45 "FlipHeaps" "chainLength" "I", .fieldLink RX0 23 "FlipHeaps" "chain" "[I", .methodLink RX0 67 yX0_flipped, .instanceMethod yX0_flipped, .selects RX0 yX0_flipped yX0_flipped, .initialized RX0, .code yX0_flipped cX0_flipped 4 (some .int), .fieldLink RX0 17 "FlipHeaps" "over" "[I", .fieldLink RX0 13 "FlipHeaps" "under" "[I", .methodLink RX0 52 yX0_has, .static yX0_has, .code yX0_has cX0_has 2 (some .boolean)] ++ wsX00)
def wsX0_turned : List Cond := .code yX0_turned cX0_turned 3 (some .int) :: ([.methodLink RX0 147 yX0_turnedRound, .instanceMethod yX0_turnedRound, .selects RX0 yX0_turnedRound yX0_turnedRound, .initialized RX0, .code yX0_turnedRound cX0_turnedRound 4 (some .int), .fieldLink RX0 9 "FlipHeaps" "thingCount" "I", .fieldLink RX0 13 "FlipHeaps" "under" "[I", .methodLink RX0 52 yX0_has, .static yX0_has, .code yX0_has cX0_has 2 (some .boolean), .methodLink RX0 150 yX0_turnedByChain, .instanceMethod yX0_turnedByChain, .selects RX0 yX0_turnedByChain yX0_turnedByChain, .code yX0_turnedByChain cX0_turnedByChain 4 (some .int), .fieldLink RX0 45 "FlipHeaps" "chainLength" "I", .fieldLink RX0 23 "FlipHeaps" "chain" "[I", .methodLink RX0 67 yX0_flipped, .instanceMethod yX0_flipped, .selects RX0 yX0_flipped yX0_flipped, .code yX0_flipped cX0_flipped 4 (some .int), .fieldLink RX0 17 "FlipHeaps" "over" "[I"] ++ wsX00)
def wsX0_turn_r1 : List Cond := [Cond.methodLink RX0 60 yX0_isHeap, Cond.instanceMethod yX0_isHeap, Cond.selects RX0 yX0_isHeap yX0_isHeap, Cond.initialized RX0, Cond.code yX0_isHeap cX0_isHeap 3 (some .boolean), Cond.fieldLink RX0 9 "FlipHeaps" "thingCount" "I", Cond.fieldLink RX0 13 "FlipHeaps" "under" "[I", Cond.methodLink RX0 57 yX0_isSet, Cond.instanceMethod yX0_isSet, Cond.selects RX0 yX0_isSet yX0_isSet, Cond.code yX0_isSet cX0_isSet 2 (some .boolean), Cond.methodLink RX0 63 yX0_setCount, Cond.instanceMethod yX0_setCount, Cond.selects RX0 yX0_setCount yX0_setCount, Cond.code yX0_setCount cX0_setCount 1 (some .int), Cond.methodLink RX0 52 yX0_has, Cond.static yX0_has, Cond.code yX0_has cX0_has 2 (some .boolean), Cond.methodLink RX0 71 yX0_isTurnKind, Cond.static yX0_isTurnKind, Cond.code yX0_isTurnKind cX0_isTurnKind 1 (some .boolean), Cond.methodLink RX0 74 yX0_isTurnNumber, Cond.static yX0_isTurnNumber, Cond.code yX0_isTurnNumber cX0_isTurnNumber 1 (some .boolean)]
def wsX0_turn_r2 : List Cond := [Cond.methodLink RX0 77 yX0_turned, Cond.instanceMethod yX0_turned, Cond.selects RX0 yX0_turned yX0_turned, Cond.code yX0_turned cX0_turned 3 (some .int), Cond.methodLink RX0 147 yX0_turnedRound, Cond.instanceMethod yX0_turnedRound, Cond.selects RX0 yX0_turnedRound yX0_turnedRound, Cond.code yX0_turnedRound cX0_turnedRound 4 (some .int), Cond.methodLink RX0 150 yX0_turnedByChain, Cond.instanceMethod yX0_turnedByChain, Cond.selects RX0 yX0_turnedByChain yX0_turnedByChain, Cond.code yX0_turnedByChain cX0_turnedByChain 4 (some .int), Cond.fieldLink RX0 45 "FlipHeaps" "chainLength" "I", Cond.fieldLink RX0 23 "FlipHeaps" "chain" "[I", Cond.methodLink RX0 67 yX0_flipped, Cond.instanceMethod yX0_flipped, Cond.selects RX0 yX0_flipped yX0_flipped, Cond.code yX0_flipped cX0_flipped 4 (some .int), Cond.fieldLink RX0 17 "FlipHeaps" "over" "[I"]
def wsX0_turn : List Cond := .code yX0_turn cX0_turn 6 (some .int) :: ((wsX0_turn_r1 ++ wsX0_turn_r2) ++ wsX00)
def wsX0_walkOrbit_r1 : List Cond := [Cond.fieldLink RX0 41 "FlipHeaps" "seen" "[Z", Cond.methodLink RX0 77 yX0_turned, Cond.instanceMethod yX0_turned, Cond.selects RX0 yX0_turned yX0_turned, Cond.initialized RX0, Cond.code yX0_turned cX0_turned 3 (some .int), Cond.methodLink RX0 147 yX0_turnedRound, Cond.instanceMethod yX0_turnedRound, Cond.selects RX0 yX0_turnedRound yX0_turnedRound, Cond.code yX0_turnedRound cX0_turnedRound 4 (some .int), Cond.fieldLink RX0 9 "FlipHeaps" "thingCount" "I", Cond.fieldLink RX0 13 "FlipHeaps" "under" "[I", Cond.methodLink RX0 52 yX0_has, Cond.static yX0_has, Cond.code yX0_has cX0_has 2 (some .boolean), Cond.methodLink RX0 150 yX0_turnedByChain, Cond.instanceMethod yX0_turnedByChain, Cond.selects RX0 yX0_turnedByChain yX0_turnedByChain, Cond.code yX0_turnedByChain cX0_turnedByChain 4 (some .int), Cond.fieldLink RX0 45 "FlipHeaps" "chainLength" "I", Cond.fieldLink RX0 23 "FlipHeaps" "chain" "[I", Cond.methodLink RX0 67 yX0_flipped, Cond.instanceMethod yX0_flipped, Cond.selects RX0 yX0_flipped yX0_flipped]
def wsX0_walkOrbit_r2 : List Cond := [Cond.code yX0_flipped cX0_flipped 4 (some .int), Cond.fieldLink RX0 17 "FlipHeaps" "over" "[I"]
def wsX0_walkOrbit : List Cond := .code yX0_walkOrbit cX0_walkOrbit 5 (some .int) :: ((wsX0_walkOrbit_r1 ++ wsX0_walkOrbit_r2) ++ wsX00)
def wsX0_orbit_r1 : List Cond := [Cond.methodLink RX0 60 yX0_isHeap, Cond.instanceMethod yX0_isHeap, Cond.selects RX0 yX0_isHeap yX0_isHeap, Cond.initialized RX0, Cond.code yX0_isHeap cX0_isHeap 3 (some .boolean), Cond.fieldLink RX0 9 "FlipHeaps" "thingCount" "I", Cond.fieldLink RX0 13 "FlipHeaps" "under" "[I", Cond.methodLink RX0 57 yX0_isSet, Cond.instanceMethod yX0_isSet, Cond.selects RX0 yX0_isSet yX0_isSet, Cond.code yX0_isSet cX0_isSet 2 (some .boolean), Cond.methodLink RX0 63 yX0_setCount, Cond.instanceMethod yX0_setCount, Cond.selects RX0 yX0_setCount yX0_setCount, Cond.code yX0_setCount cX0_setCount 1 (some .int), Cond.methodLink RX0 52 yX0_has, Cond.static yX0_has, Cond.code yX0_has cX0_has 2 (some .boolean), Cond.methodLink RX0 71 yX0_isTurnKind, Cond.static yX0_isTurnKind, Cond.code yX0_isTurnKind cX0_isTurnKind 1 (some .boolean), Cond.methodLink RX0 80 yX0_walkOrbit, Cond.instanceMethod yX0_walkOrbit, Cond.selects RX0 yX0_walkOrbit yX0_walkOrbit]
def wsX0_orbit_r2 : List Cond := [Cond.code yX0_walkOrbit cX0_walkOrbit 5 (some .int), Cond.fieldLink RX0 41 "FlipHeaps" "seen" "[Z", Cond.methodLink RX0 77 yX0_turned, Cond.instanceMethod yX0_turned, Cond.selects RX0 yX0_turned yX0_turned, Cond.code yX0_turned cX0_turned 3 (some .int), Cond.methodLink RX0 147 yX0_turnedRound, Cond.instanceMethod yX0_turnedRound, Cond.selects RX0 yX0_turnedRound yX0_turnedRound, Cond.code yX0_turnedRound cX0_turnedRound 4 (some .int), Cond.methodLink RX0 150 yX0_turnedByChain, Cond.instanceMethod yX0_turnedByChain, Cond.selects RX0 yX0_turnedByChain yX0_turnedByChain, Cond.code yX0_turnedByChain cX0_turnedByChain 4 (some .int), Cond.fieldLink RX0 45 "FlipHeaps" "chainLength" "I", Cond.fieldLink RX0 23 "FlipHeaps" "chain" "[I", Cond.methodLink RX0 67 yX0_flipped, Cond.instanceMethod yX0_flipped, Cond.selects RX0 yX0_flipped yX0_flipped, Cond.code yX0_flipped cX0_flipped 4 (some .int), Cond.fieldLink RX0 17 "FlipHeaps" "over" "[I"]
def wsX0_orbit : List Cond := .code yX0_orbit cX0_orbit 3 (some .int) :: ((wsX0_orbit_r1 ++ wsX0_orbit_r2) ++ wsX00)
def wsX0_findOrbits_r1 : List Cond := [Cond.fieldLink RX0 41 "FlipHeaps" "seen" "[Z", Cond.fieldLink RX0 35 "FlipHeaps" "starts" "[I", Cond.fieldLink RX0 38 "FlipHeaps" "lengths" "[I", Cond.methodLink RX0 63 yX0_setCount, Cond.instanceMethod yX0_setCount, Cond.selects RX0 yX0_setCount yX0_setCount, Cond.initialized RX0, Cond.code yX0_setCount cX0_setCount 1 (some .int), Cond.fieldLink RX0 9 "FlipHeaps" "thingCount" "I", Cond.methodLink RX0 60 yX0_isHeap, Cond.instanceMethod yX0_isHeap, Cond.selects RX0 yX0_isHeap yX0_isHeap, Cond.code yX0_isHeap cX0_isHeap 3 (some .boolean), Cond.fieldLink RX0 13 "FlipHeaps" "under" "[I", Cond.methodLink RX0 57 yX0_isSet, Cond.instanceMethod yX0_isSet, Cond.selects RX0 yX0_isSet yX0_isSet, Cond.code yX0_isSet cX0_isSet 2 (some .boolean), Cond.methodLink RX0 52 yX0_has, Cond.static yX0_has, Cond.code yX0_has cX0_has 2 (some .boolean), Cond.methodLink RX0 80 yX0_walkOrbit, Cond.instanceMethod yX0_walkOrbit, Cond.selects RX0 yX0_walkOrbit yX0_walkOrbit]
def wsX0_findOrbits_r2 : List Cond := [Cond.code yX0_walkOrbit cX0_walkOrbit 5 (some .int), Cond.methodLink RX0 77 yX0_turned, Cond.instanceMethod yX0_turned, Cond.selects RX0 yX0_turned yX0_turned, Cond.code yX0_turned cX0_turned 3 (some .int), Cond.methodLink RX0 147 yX0_turnedRound, Cond.instanceMethod yX0_turnedRound, Cond.selects RX0 yX0_turnedRound yX0_turnedRound, Cond.code yX0_turnedRound cX0_turnedRound 4 (some .int), Cond.methodLink RX0 150 yX0_turnedByChain, Cond.instanceMethod yX0_turnedByChain, Cond.selects RX0 yX0_turnedByChain yX0_turnedByChain, Cond.code yX0_turnedByChain cX0_turnedByChain 4 (some .int), Cond.fieldLink RX0 45 "FlipHeaps" "chainLength" "I", Cond.fieldLink RX0 23 "FlipHeaps" "chain" "[I", Cond.methodLink RX0 67 yX0_flipped, Cond.instanceMethod yX0_flipped, Cond.selects RX0 yX0_flipped yX0_flipped, Cond.code yX0_flipped cX0_flipped 4 (some .int), Cond.fieldLink RX0 17 "FlipHeaps" "over" "[I"]
def wsX0_findOrbits : List Cond := .code yX0_findOrbits cX0_findOrbits 4 (some .int) :: ((wsX0_findOrbits_r1 ++ wsX0_findOrbits_r2) ++ wsX00)
def wsX0_commonDivisor : List Cond := .code yX0_commonDivisor cX0_commonDivisor 6 (some .int) :: ([.methodLink RX0 160 Lib.Math.max.name, .static Lib.Math.max.name, .initialized "java/lang/Math", .code Lib.Math.max.name Lib.Math.max.code 2 (some .int)])
def wsX0_orderOf : List Cond := .code yX0_orderOf cX0_orderOf 7 (some .int) :: ([.fieldLink RX0 38 "FlipHeaps" "lengths" "[I", .constantLong RX0 158 (1000000000), .methodLink RX0 115 yX0_commonDivisor, .static yX0_commonDivisor, .initialized RX0, .code yX0_commonDivisor cX0_commonDivisor 6 (some .int), .methodLink RX0 160 Lib.Math.max.name, .static Lib.Math.max.name, .initialized "java/lang/Math", .code Lib.Math.max.name Lib.Math.max.code 2 (some .int)] ++ wsX00)
def wsX0_longestOf : List Cond := .code yX0_longestOf cX0_longestOf 4 (some .int) :: ([.fieldLink RX0 38 "FlipHeaps" "lengths" "[I", .methodLink RX0 160 Lib.Math.max.name, .static Lib.Math.max.name, .initialized "java/lang/Math", .code Lib.Math.max.name Lib.Math.max.code 2 (some .int)] ++ wsX00)
def wsX0_orbits_r1 : List Cond := [Cond.methodLink RX0 71 yX0_isTurnKind, Cond.static yX0_isTurnKind, Cond.initialized RX0, Cond.code yX0_isTurnKind cX0_isTurnKind 1 (some .boolean), Cond.methodLink RX0 83 yX0_findOrbits, Cond.instanceMethod yX0_findOrbits, Cond.selects RX0 yX0_findOrbits yX0_findOrbits, Cond.code yX0_findOrbits cX0_findOrbits 4 (some .int), Cond.fieldLink RX0 41 "FlipHeaps" "seen" "[Z", Cond.fieldLink RX0 35 "FlipHeaps" "starts" "[I", Cond.fieldLink RX0 38 "FlipHeaps" "lengths" "[I", Cond.methodLink RX0 63 yX0_setCount, Cond.instanceMethod yX0_setCount, Cond.selects RX0 yX0_setCount yX0_setCount, Cond.code yX0_setCount cX0_setCount 1 (some .int), Cond.fieldLink RX0 9 "FlipHeaps" "thingCount" "I", Cond.methodLink RX0 60 yX0_isHeap, Cond.instanceMethod yX0_isHeap, Cond.selects RX0 yX0_isHeap yX0_isHeap, Cond.code yX0_isHeap cX0_isHeap 3 (some .boolean), Cond.fieldLink RX0 13 "FlipHeaps" "under" "[I", Cond.methodLink RX0 57 yX0_isSet, Cond.instanceMethod yX0_isSet, Cond.selects RX0 yX0_isSet yX0_isSet]
def wsX0_orbits_r2 : List Cond := [Cond.code yX0_isSet cX0_isSet 2 (some .boolean), Cond.methodLink RX0 52 yX0_has, Cond.static yX0_has, Cond.code yX0_has cX0_has 2 (some .boolean), Cond.methodLink RX0 80 yX0_walkOrbit, Cond.instanceMethod yX0_walkOrbit, Cond.selects RX0 yX0_walkOrbit yX0_walkOrbit, Cond.code yX0_walkOrbit cX0_walkOrbit 5 (some .int), Cond.methodLink RX0 77 yX0_turned, Cond.instanceMethod yX0_turned, Cond.selects RX0 yX0_turned yX0_turned, Cond.code yX0_turned cX0_turned 3 (some .int), Cond.methodLink RX0 147 yX0_turnedRound, Cond.instanceMethod yX0_turnedRound, Cond.selects RX0 yX0_turnedRound yX0_turnedRound, Cond.code yX0_turnedRound cX0_turnedRound 4 (some .int), Cond.methodLink RX0 150 yX0_turnedByChain, Cond.instanceMethod yX0_turnedByChain, Cond.selects RX0 yX0_turnedByChain yX0_turnedByChain, Cond.code yX0_turnedByChain cX0_turnedByChain 4 (some .int), Cond.fieldLink RX0 45 "FlipHeaps" "chainLength" "I", Cond.fieldLink RX0 23 "FlipHeaps" "chain" "[I", Cond.methodLink RX0 67 yX0_flipped, Cond.instanceMethod yX0_flipped]
def wsX0_orbits_r3 : List Cond := [Cond.selects RX0 yX0_flipped yX0_flipped, Cond.code yX0_flipped cX0_flipped 4 (some .int), Cond.fieldLink RX0 17 "FlipHeaps" "over" "[I", Cond.methodLink RX0 87 yX0_orderOf, Cond.instanceMethod yX0_orderOf, Cond.selects RX0 yX0_orderOf yX0_orderOf, Cond.code yX0_orderOf cX0_orderOf 7 (some .int), Cond.constantLong RX0 158 (1000000000), Cond.methodLink RX0 115 yX0_commonDivisor, Cond.static yX0_commonDivisor, Cond.code yX0_commonDivisor cX0_commonDivisor 6 (some .int), Cond.methodLink RX0 160 Lib.Math.max.name, Cond.static Lib.Math.max.name, Cond.initialized "java/lang/Math", Cond.code Lib.Math.max.name Lib.Math.max.code 2 (some .int), Cond.methodLink RX0 90 yX0_longestOf, Cond.instanceMethod yX0_longestOf, Cond.selects RX0 yX0_longestOf yX0_longestOf, Cond.code yX0_longestOf cX0_longestOf 4 (some .int)]
def wsX0_orbits : List Cond := .code yX0_orbits cX0_orbits 4 (some .int) :: ((wsX0_orbits_r1 ++ (wsX0_orbits_r2 ++ wsX0_orbits_r3)) ++ wsX00)
def wsX0_isMeasureKind : List Cond := .code yX0_isMeasureKind cX0_isMeasureKind 1 (some .boolean) :: ([])
def wsX0_traceOf : List Cond := .code yX0_traceOf cX0_traceOf 2 (some .int) :: ([])
def wsJ6_bitCount_0f7a4 : List Cond := .code yJ6_bitCount_0f7a4 cJ6_bitCount_0f7a4 1 (some .int) :: ([.constant RJ6 265 (1431655765), .constant RJ6 266 (858993459), .constant RJ6 267 (252645135)])
def wsX0_weighed : List Cond := .code yX0_weighed cX0_weighed 4 (some .int) :: ([.fieldLink RX0 9 "FlipHeaps" "thingCount" "I", .fieldLink RX0 20 "FlipHeaps" "weights" "[I", .methodLink RX0 153 yJ6_bitCount_0f7a4, .static yJ6_bitCount_0f7a4, .initialized RJ6, .code yJ6_bitCount_0f7a4 cJ6_bitCount_0f7a4 1 (some .int), .constant RJ6 265 (1431655765), .constant RJ6 266 (858993459), .constant RJ6 267 (252645135), .methodLink RX0 52 yX0_has, .static yX0_has, .initialized RX0, .code yX0_has cX0_has 2 (some .boolean)] ++ wsX00)
def wsX0_edged : List Cond := .code yX0_edged cX0_edged 4 (some .int) :: ([.fieldLink RX0 9 "FlipHeaps" "thingCount" "I", .fieldLink RX0 17 "FlipHeaps" "over" "[I", .methodLink RX0 166 yX0_weighed, .instanceMethod yX0_weighed, .selects RX0 yX0_weighed yX0_weighed, .initialized RX0, .code yX0_weighed cX0_weighed 4 (some .int), .fieldLink RX0 20 "FlipHeaps" "weights" "[I", .methodLink RX0 153 yJ6_bitCount_0f7a4, .static yJ6_bitCount_0f7a4, .initialized RJ6, .code yJ6_bitCount_0f7a4 cJ6_bitCount_0f7a4 1 (some .int), .constant RJ6 265 (1431655765), .constant RJ6 266 (858993459), .constant RJ6 267 (252645135), .methodLink RX0 52 yX0_has, .static yX0_has, .code yX0_has cX0_has 2 (some .boolean)] ++ wsX00)
def wsX0_measured : List Cond := .code yX0_measured cX0_measured 3 (some .int) :: ([.methodLink RX0 163 yX0_edged, .instanceMethod yX0_edged, .selects RX0 yX0_edged yX0_edged, .initialized RX0, .code yX0_edged cX0_edged 4 (some .int), .fieldLink RX0 9 "FlipHeaps" "thingCount" "I", .fieldLink RX0 17 "FlipHeaps" "over" "[I", .methodLink RX0 166 yX0_weighed, .instanceMethod yX0_weighed, .selects RX0 yX0_weighed yX0_weighed, .code yX0_weighed cX0_weighed 4 (some .int), .fieldLink RX0 20 "FlipHeaps" "weights" "[I", .methodLink RX0 153 yJ6_bitCount_0f7a4, .static yJ6_bitCount_0f7a4, .initialized RJ6, .code yJ6_bitCount_0f7a4 cJ6_bitCount_0f7a4 1 (some .int), .constant RJ6 265 (1431655765), .constant RJ6 266 (858993459), .constant RJ6 267 (252645135), .methodLink RX0 52 yX0_has, .static yX0_has, .code yX0_has cX0_has 2 (some .boolean)] ++ wsX00)
def wsX0_measure_r1 : List Cond := [Cond.constant RX0 56 (-1000000), Cond.fieldLink RX0 96 "FlipHeaps" "traced" "J", Cond.methodLink RX0 93 yX0_isMeasureKind, Cond.static yX0_isMeasureKind, Cond.initialized RX0, Cond.code yX0_isMeasureKind cX0_isMeasureKind 1 (some .boolean), Cond.methodLink RX0 60 yX0_isHeap, Cond.instanceMethod yX0_isHeap, Cond.selects RX0 yX0_isHeap yX0_isHeap, Cond.code yX0_isHeap cX0_isHeap 3 (some .boolean), Cond.fieldLink RX0 9 "FlipHeaps" "thingCount" "I", Cond.fieldLink RX0 13 "FlipHeaps" "under" "[I", Cond.methodLink RX0 57 yX0_isSet, Cond.instanceMethod yX0_isSet, Cond.selects RX0 yX0_isSet yX0_isSet, Cond.code yX0_isSet cX0_isSet 2 (some .boolean), Cond.methodLink RX0 63 yX0_setCount, Cond.instanceMethod yX0_setCount, Cond.selects RX0 yX0_setCount yX0_setCount, Cond.code yX0_setCount cX0_setCount 1 (some .int), Cond.methodLink RX0 52 yX0_has, Cond.static yX0_has, Cond.code yX0_has cX0_has 2 (some .boolean), Cond.methodLink RX0 100 yX0_traceOf]
def wsX0_measure_r2 : List Cond := [Cond.static yX0_traceOf, Cond.code yX0_traceOf cX0_traceOf 2 (some .int), Cond.methodLink RX0 103 yX0_measured, Cond.instanceMethod yX0_measured, Cond.selects RX0 yX0_measured yX0_measured, Cond.code yX0_measured cX0_measured 3 (some .int), Cond.methodLink RX0 163 yX0_edged, Cond.instanceMethod yX0_edged, Cond.selects RX0 yX0_edged yX0_edged, Cond.code yX0_edged cX0_edged 4 (some .int), Cond.fieldLink RX0 17 "FlipHeaps" "over" "[I", Cond.methodLink RX0 166 yX0_weighed, Cond.instanceMethod yX0_weighed, Cond.selects RX0 yX0_weighed yX0_weighed, Cond.code yX0_weighed cX0_weighed 4 (some .int), Cond.fieldLink RX0 20 "FlipHeaps" "weights" "[I", Cond.methodLink RX0 153 yJ6_bitCount_0f7a4, Cond.static yJ6_bitCount_0f7a4, Cond.initialized RJ6, Cond.code yJ6_bitCount_0f7a4 cJ6_bitCount_0f7a4 1 (some .int), Cond.constant RJ6 265 (1431655765), Cond.constant RJ6 266 (858993459), Cond.constant RJ6 267 (252645135)]
def wsX0_measure : List Cond := .code yX0_measure cX0_measure 3 (some .int) :: ((wsX0_measure_r1 ++ wsX0_measure_r2) ++ wsX00)
def wsX0_sumOfOrbit_r1 : List Cond := [Cond.methodLink RX0 103 yX0_measured, Cond.instanceMethod yX0_measured, Cond.selects RX0 yX0_measured yX0_measured, Cond.initialized RX0, Cond.code yX0_measured cX0_measured 3 (some .int), Cond.methodLink RX0 163 yX0_edged, Cond.instanceMethod yX0_edged, Cond.selects RX0 yX0_edged yX0_edged, Cond.code yX0_edged cX0_edged 4 (some .int), Cond.fieldLink RX0 9 "FlipHeaps" "thingCount" "I", Cond.fieldLink RX0 17 "FlipHeaps" "over" "[I", Cond.methodLink RX0 166 yX0_weighed, Cond.instanceMethod yX0_weighed, Cond.selects RX0 yX0_weighed yX0_weighed, Cond.code yX0_weighed cX0_weighed 4 (some .int), Cond.fieldLink RX0 20 "FlipHeaps" "weights" "[I", Cond.methodLink RX0 153 yJ6_bitCount_0f7a4, Cond.static yJ6_bitCount_0f7a4, Cond.initialized RJ6, Cond.code yJ6_bitCount_0f7a4 cJ6_bitCount_0f7a4 1 (some .int), Cond.constant RJ6 265 (1431655765), Cond.constant RJ6 266 (858993459), Cond.constant RJ6 267 (252645135), Cond.methodLink RX0 52 yX0_has]
def wsX0_sumOfOrbit_r2 : List Cond := [Cond.static yX0_has, Cond.code yX0_has cX0_has 2 (some .boolean), Cond.methodLink RX0 77 yX0_turned, Cond.instanceMethod yX0_turned, Cond.selects RX0 yX0_turned yX0_turned, Cond.code yX0_turned cX0_turned 3 (some .int), Cond.methodLink RX0 147 yX0_turnedRound, Cond.instanceMethod yX0_turnedRound, Cond.selects RX0 yX0_turnedRound yX0_turnedRound, Cond.code yX0_turnedRound cX0_turnedRound 4 (some .int), Cond.fieldLink RX0 13 "FlipHeaps" "under" "[I", Cond.methodLink RX0 150 yX0_turnedByChain, Cond.instanceMethod yX0_turnedByChain, Cond.selects RX0 yX0_turnedByChain yX0_turnedByChain, Cond.code yX0_turnedByChain cX0_turnedByChain 4 (some .int), Cond.fieldLink RX0 45 "FlipHeaps" "chainLength" "I", Cond.fieldLink RX0 23 "FlipHeaps" "chain" "[I", Cond.methodLink RX0 67 yX0_flipped, Cond.instanceMethod yX0_flipped, Cond.selects RX0 yX0_flipped yX0_flipped, Cond.code yX0_flipped cX0_flipped 4 (some .int)]
def wsX0_sumOfOrbit : List Cond := .code yX0_sumOfOrbit cX0_sumOfOrbit 8 (some .int) :: ((wsX0_sumOfOrbit_r1 ++ wsX0_sumOfOrbit_r2) ++ wsX00)
def wsX0_mean_r1 : List Cond := [Cond.constant RX0 56 (-1000000), Cond.methodLink RX0 110 Lib.Math.abs.name, Cond.static Lib.Math.abs.name, Cond.initialized "java/lang/Math", Cond.code Lib.Math.abs.name Lib.Math.abs.code 1 (some .int), Cond.methodLink RX0 60 yX0_isHeap, Cond.instanceMethod yX0_isHeap, Cond.selects RX0 yX0_isHeap yX0_isHeap, Cond.initialized RX0, Cond.code yX0_isHeap cX0_isHeap 3 (some .boolean), Cond.fieldLink RX0 9 "FlipHeaps" "thingCount" "I", Cond.fieldLink RX0 13 "FlipHeaps" "under" "[I", Cond.methodLink RX0 57 yX0_isSet, Cond.instanceMethod yX0_isSet, Cond.selects RX0 yX0_isSet yX0_isSet, Cond.code yX0_isSet cX0_isSet 2 (some .boolean), Cond.methodLink RX0 63 yX0_setCount, Cond.instanceMethod yX0_setCount, Cond.selects RX0 yX0_setCount yX0_setCount, Cond.code yX0_setCount cX0_setCount 1 (some .int), Cond.methodLink RX0 52 yX0_has, Cond.static yX0_has, Cond.code yX0_has cX0_has 2 (some .boolean), Cond.methodLink RX0 71 yX0_isTurnKind]
def wsX0_mean_r2 : List Cond := [Cond.static yX0_isTurnKind, Cond.code yX0_isTurnKind cX0_isTurnKind 1 (some .boolean), Cond.methodLink RX0 93 yX0_isMeasureKind, Cond.static yX0_isMeasureKind, Cond.code yX0_isMeasureKind cX0_isMeasureKind 1 (some .boolean), Cond.methodLink RX0 80 yX0_walkOrbit, Cond.instanceMethod yX0_walkOrbit, Cond.selects RX0 yX0_walkOrbit yX0_walkOrbit, Cond.code yX0_walkOrbit cX0_walkOrbit 5 (some .int), Cond.fieldLink RX0 41 "FlipHeaps" "seen" "[Z", Cond.methodLink RX0 77 yX0_turned, Cond.instanceMethod yX0_turned, Cond.selects RX0 yX0_turned yX0_turned, Cond.code yX0_turned cX0_turned 3 (some .int), Cond.methodLink RX0 147 yX0_turnedRound, Cond.instanceMethod yX0_turnedRound, Cond.selects RX0 yX0_turnedRound yX0_turnedRound, Cond.code yX0_turnedRound cX0_turnedRound 4 (some .int), Cond.methodLink RX0 150 yX0_turnedByChain, Cond.instanceMethod yX0_turnedByChain, Cond.selects RX0 yX0_turnedByChain yX0_turnedByChain, Cond.code yX0_turnedByChain cX0_turnedByChain 4 (some .int), Cond.fieldLink RX0 45 "FlipHeaps" "chainLength" "I", Cond.fieldLink RX0 23 "FlipHeaps" "chain" "[I"]
def wsX0_mean_r3 : List Cond := [Cond.methodLink RX0 67 yX0_flipped, Cond.instanceMethod yX0_flipped, Cond.selects RX0 yX0_flipped yX0_flipped, Cond.code yX0_flipped cX0_flipped 4 (some .int), Cond.fieldLink RX0 17 "FlipHeaps" "over" "[I", Cond.methodLink RX0 106 yX0_sumOfOrbit, Cond.instanceMethod yX0_sumOfOrbit, Cond.selects RX0 yX0_sumOfOrbit yX0_sumOfOrbit, Cond.code yX0_sumOfOrbit cX0_sumOfOrbit 8 (some .int), Cond.methodLink RX0 103 yX0_measured, Cond.instanceMethod yX0_measured, Cond.selects RX0 yX0_measured yX0_measured, Cond.code yX0_measured cX0_measured 3 (some .int), Cond.methodLink RX0 163 yX0_edged, Cond.instanceMethod yX0_edged, Cond.selects RX0 yX0_edged yX0_edged, Cond.code yX0_edged cX0_edged 4 (some .int), Cond.methodLink RX0 166 yX0_weighed, Cond.instanceMethod yX0_weighed, Cond.selects RX0 yX0_weighed yX0_weighed, Cond.code yX0_weighed cX0_weighed 4 (some .int), Cond.fieldLink RX0 20 "FlipHeaps" "weights" "[I", Cond.methodLink RX0 153 yJ6_bitCount_0f7a4, Cond.static yJ6_bitCount_0f7a4]
def wsX0_mean_r4 : List Cond := [Cond.initialized RJ6, Cond.code yJ6_bitCount_0f7a4 cJ6_bitCount_0f7a4 1 (some .int), Cond.constant RJ6 265 (1431655765), Cond.constant RJ6 266 (858993459), Cond.constant RJ6 267 (252645135), Cond.methodLink RX0 115 yX0_commonDivisor, Cond.static yX0_commonDivisor, Cond.code yX0_commonDivisor cX0_commonDivisor 6 (some .int), Cond.methodLink RX0 160 Lib.Math.max.name, Cond.static Lib.Math.max.name, Cond.code Lib.Math.max.name Lib.Math.max.code 2 (some .int)]
def wsX0_mean : List Cond := .code yX0_mean cX0_mean 8 (some .int) :: ((wsX0_mean_r1 ++ (wsX0_mean_r2 ++ (wsX0_mean_r3 ++ wsX0_mean_r4))) ++ wsX00)
def wsX0_even_r1 : List Cond := [Cond.fieldLink RX0 38 "FlipHeaps" "lengths" "[I", Cond.fieldLink RX0 35 "FlipHeaps" "starts" "[I", Cond.methodLink RX0 71 yX0_isTurnKind, Cond.static yX0_isTurnKind, Cond.initialized RX0, Cond.code yX0_isTurnKind cX0_isTurnKind 1 (some .boolean), Cond.methodLink RX0 93 yX0_isMeasureKind, Cond.static yX0_isMeasureKind, Cond.code yX0_isMeasureKind cX0_isMeasureKind 1 (some .boolean), Cond.methodLink RX0 83 yX0_findOrbits, Cond.instanceMethod yX0_findOrbits, Cond.selects RX0 yX0_findOrbits yX0_findOrbits, Cond.code yX0_findOrbits cX0_findOrbits 4 (some .int), Cond.fieldLink RX0 41 "FlipHeaps" "seen" "[Z", Cond.methodLink RX0 63 yX0_setCount, Cond.instanceMethod yX0_setCount, Cond.selects RX0 yX0_setCount yX0_setCount, Cond.code yX0_setCount cX0_setCount 1 (some .int), Cond.fieldLink RX0 9 "FlipHeaps" "thingCount" "I", Cond.methodLink RX0 60 yX0_isHeap, Cond.instanceMethod yX0_isHeap, Cond.selects RX0 yX0_isHeap yX0_isHeap, Cond.code yX0_isHeap cX0_isHeap 3 (some .boolean), Cond.fieldLink RX0 13 "FlipHeaps" "under" "[I"]
def wsX0_even_r2 : List Cond := [Cond.methodLink RX0 57 yX0_isSet, Cond.instanceMethod yX0_isSet, Cond.selects RX0 yX0_isSet yX0_isSet, Cond.code yX0_isSet cX0_isSet 2 (some .boolean), Cond.methodLink RX0 52 yX0_has, Cond.static yX0_has, Cond.code yX0_has cX0_has 2 (some .boolean), Cond.methodLink RX0 80 yX0_walkOrbit, Cond.instanceMethod yX0_walkOrbit, Cond.selects RX0 yX0_walkOrbit yX0_walkOrbit, Cond.code yX0_walkOrbit cX0_walkOrbit 5 (some .int), Cond.methodLink RX0 77 yX0_turned, Cond.instanceMethod yX0_turned, Cond.selects RX0 yX0_turned yX0_turned, Cond.code yX0_turned cX0_turned 3 (some .int), Cond.methodLink RX0 147 yX0_turnedRound, Cond.instanceMethod yX0_turnedRound, Cond.selects RX0 yX0_turnedRound yX0_turnedRound, Cond.code yX0_turnedRound cX0_turnedRound 4 (some .int), Cond.methodLink RX0 150 yX0_turnedByChain, Cond.instanceMethod yX0_turnedByChain, Cond.selects RX0 yX0_turnedByChain yX0_turnedByChain, Cond.code yX0_turnedByChain cX0_turnedByChain 4 (some .int), Cond.fieldLink RX0 45 "FlipHeaps" "chainLength" "I"]
def wsX0_even_r3 : List Cond := [Cond.fieldLink RX0 23 "FlipHeaps" "chain" "[I", Cond.methodLink RX0 67 yX0_flipped, Cond.instanceMethod yX0_flipped, Cond.selects RX0 yX0_flipped yX0_flipped, Cond.code yX0_flipped cX0_flipped 4 (some .int), Cond.fieldLink RX0 17 "FlipHeaps" "over" "[I", Cond.methodLink RX0 106 yX0_sumOfOrbit, Cond.instanceMethod yX0_sumOfOrbit, Cond.selects RX0 yX0_sumOfOrbit yX0_sumOfOrbit, Cond.code yX0_sumOfOrbit cX0_sumOfOrbit 8 (some .int), Cond.methodLink RX0 103 yX0_measured, Cond.instanceMethod yX0_measured, Cond.selects RX0 yX0_measured yX0_measured, Cond.code yX0_measured cX0_measured 3 (some .int), Cond.methodLink RX0 163 yX0_edged, Cond.instanceMethod yX0_edged, Cond.selects RX0 yX0_edged yX0_edged, Cond.code yX0_edged cX0_edged 4 (some .int), Cond.methodLink RX0 166 yX0_weighed, Cond.instanceMethod yX0_weighed, Cond.selects RX0 yX0_weighed yX0_weighed, Cond.code yX0_weighed cX0_weighed 4 (some .int), Cond.fieldLink RX0 20 "FlipHeaps" "weights" "[I", Cond.methodLink RX0 153 yJ6_bitCount_0f7a4]
def wsX0_even_r4 : List Cond := [Cond.static yJ6_bitCount_0f7a4, Cond.initialized RJ6, Cond.code yJ6_bitCount_0f7a4 cJ6_bitCount_0f7a4 1 (some .int), Cond.constant RJ6 265 (1431655765), Cond.constant RJ6 266 (858993459), Cond.constant RJ6 267 (252645135)]
def wsX0_even : List Cond := .code yX0_even cX0_even 8 (some .int) :: ((wsX0_even_r1 ++ (wsX0_even_r2 ++ (wsX0_even_r3 ++ wsX0_even_r4))) ++ wsX00)
def wsX0_isHeight : List Cond := .code yX0_isHeight cX0_isHeight 1 (some .boolean) :: ([])
def wsX0_extendRows : List Cond := .code yX0_extendRows cX0_extendRows 3 none :: ([.fieldLink RX0 9 "FlipHeaps" "thingCount" "I", .fieldLink RX0 32 "FlipHeaps" "ways" "[I", .methodLink RX0 63 yX0_setCount, .instanceMethod yX0_setCount, .selects RX0 yX0_setCount yX0_setCount, .initialized RX0, .code yX0_setCount cX0_setCount 1 (some .int), .methodLink RX0 52 yX0_has, .static yX0_has, .code yX0_has cX0_has 2 (some .boolean), .methodLink RX0 60 yX0_isHeap, .instanceMethod yX0_isHeap, .selects RX0 yX0_isHeap yX0_isHeap, .code yX0_isHeap cX0_isHeap 3 (some .boolean), .fieldLink RX0 13 "FlipHeaps" "under" "[I", .methodLink RX0 57 yX0_isSet, .instanceMethod yX0_isSet, .selects RX0 yX0_isSet yX0_isSet, .code yX0_isSet cX0_isSet 2 (some .boolean)] ++ wsX00)
def wsX0_fillings_r1 : List Cond := [Cond.fieldLink RX0 32 "FlipHeaps" "ways" "[I", Cond.methodLink RX0 118 yX0_isHeight, Cond.static yX0_isHeight, Cond.initialized RX0, Cond.code yX0_isHeight cX0_isHeight 1 (some .boolean), Cond.methodLink RX0 63 yX0_setCount, Cond.instanceMethod yX0_setCount, Cond.selects RX0 yX0_setCount yX0_setCount, Cond.code yX0_setCount cX0_setCount 1 (some .int), Cond.fieldLink RX0 9 "FlipHeaps" "thingCount" "I", Cond.methodLink RX0 60 yX0_isHeap, Cond.instanceMethod yX0_isHeap, Cond.selects RX0 yX0_isHeap yX0_isHeap, Cond.code yX0_isHeap cX0_isHeap 3 (some .boolean), Cond.fieldLink RX0 13 "FlipHeaps" "under" "[I", Cond.methodLink RX0 57 yX0_isSet, Cond.instanceMethod yX0_isSet, Cond.selects RX0 yX0_isSet yX0_isSet, Cond.code yX0_isSet cX0_isSet 2 (some .boolean), Cond.methodLink RX0 52 yX0_has, Cond.static yX0_has, Cond.code yX0_has cX0_has 2 (some .boolean), Cond.methodLink RX0 121 yX0_extendRows, Cond.instanceMethod yX0_extendRows]
def wsX0_fillings_r2 : List Cond := [Cond.selects RX0 yX0_extendRows yX0_extendRows, Cond.code yX0_extendRows cX0_extendRows 3 none]
def wsX0_fillings : List Cond := .code yX0_fillings cX0_fillings 4 (some .int) :: ((wsX0_fillings_r1 ++ wsX0_fillings_r2) ++ wsX00)
def wsX0_digitsFallUpwards : List Cond := .code yX0_digitsFallUpwards cX0_digitsFallUpwards 3 (some .boolean) :: ([.fieldLink RX0 9 "FlipHeaps" "thingCount" "I", .fieldLink RX0 13 "FlipHeaps" "under" "[I", .fieldLink RX0 26 "FlipHeaps" "digits" "[I", .methodLink RX0 52 yX0_has, .static yX0_has, .initialized RX0, .code yX0_has cX0_has 2 (some .boolean)] ++ wsX00)
def wsX0_readFilling : List Cond := .code yX0_readFilling cX0_readFilling 5 (some .boolean) :: ([.fieldLink RX0 9 "FlipHeaps" "thingCount" "I", .fieldLink RX0 26 "FlipHeaps" "digits" "[I", .methodLink RX0 118 yX0_isHeight, .static yX0_isHeight, .initialized RX0, .code yX0_isHeight cX0_isHeight 1 (some .boolean), .methodLink RX0 169 yX0_digitsFallUpwards, .instanceMethod yX0_digitsFallUpwards, .selects RX0 yX0_digitsFallUpwards yX0_digitsFallUpwards, .code yX0_digitsFallUpwards cX0_digitsFallUpwards 3 (some .boolean), .fieldLink RX0 13 "FlipHeaps" "under" "[I", .methodLink RX0 52 yX0_has, .static yX0_has, .code yX0_has cX0_has 2 (some .boolean)] ++ wsX00)
def wsX0_flipDigit : List Cond := .code yX0_flipDigit cX0_flipDigit 6 none :: ([.fieldLink RX0 9 "FlipHeaps" "thingCount" "I", .fieldLink RX0 13 "FlipHeaps" "under" "[I", .fieldLink RX0 26 "FlipHeaps" "digits" "[I", .methodLink RX0 173 Lib.Math.min.name, .static Lib.Math.min.name, .initialized "java/lang/Math", .code Lib.Math.min.name Lib.Math.min.code 2 (some .int), .fieldLink RX0 17 "FlipHeaps" "over" "[I", .methodLink RX0 160 Lib.Math.max.name, .static Lib.Math.max.name, .code Lib.Math.max.name Lib.Math.max.code 2 (some .int), .methodLink RX0 52 yX0_has, .static yX0_has, .initialized RX0, .code yX0_has cX0_has 2 (some .boolean)] ++ wsX00)
def wsX0_numberOfDigits : List Cond := .code yX0_numberOfDigits cX0_numberOfDigits 4 (some .int) :: ([.fieldLink RX0 9 "FlipHeaps" "thingCount" "I", .fieldLink RX0 26 "FlipHeaps" "digits" "[I"] ++ wsX00)
def wsX0_bend_r1 : List Cond := [Cond.methodLink RX0 48 yX0_isThing, Cond.instanceMethod yX0_isThing, Cond.selects RX0 yX0_isThing yX0_isThing, Cond.initialized RX0, Cond.code yX0_isThing cX0_isThing 2 (some .boolean), Cond.fieldLink RX0 9 "FlipHeaps" "thingCount" "I", Cond.methodLink RX0 124 yX0_readFilling, Cond.instanceMethod yX0_readFilling, Cond.selects RX0 yX0_readFilling yX0_readFilling, Cond.code yX0_readFilling cX0_readFilling 5 (some .boolean), Cond.fieldLink RX0 26 "FlipHeaps" "digits" "[I", Cond.methodLink RX0 118 yX0_isHeight, Cond.static yX0_isHeight, Cond.code yX0_isHeight cX0_isHeight 1 (some .boolean), Cond.methodLink RX0 169 yX0_digitsFallUpwards, Cond.instanceMethod yX0_digitsFallUpwards, Cond.selects RX0 yX0_digitsFallUpwards yX0_digitsFallUpwards, Cond.code yX0_digitsFallUpwards cX0_digitsFallUpwards 3 (some .boolean), Cond.fieldLink RX0 13 "FlipHeaps" "under" "[I", Cond.methodLink RX0 52 yX0_has, Cond.static yX0_has, Cond.code yX0_has cX0_has 2 (some .boolean), Cond.methodLink RX0 127 yX0_flipDigit, Cond.instanceMethod yX0_flipDigit]
def wsX0_bend_r2 : List Cond := [Cond.selects RX0 yX0_flipDigit yX0_flipDigit, Cond.code yX0_flipDigit cX0_flipDigit 6 none, Cond.methodLink RX0 173 Lib.Math.min.name, Cond.static Lib.Math.min.name, Cond.initialized "java/lang/Math", Cond.code Lib.Math.min.name Lib.Math.min.code 2 (some .int), Cond.fieldLink RX0 17 "FlipHeaps" "over" "[I", Cond.methodLink RX0 160 Lib.Math.max.name, Cond.static Lib.Math.max.name, Cond.code Lib.Math.max.name Lib.Math.max.code 2 (some .int), Cond.methodLink RX0 131 yX0_numberOfDigits, Cond.instanceMethod yX0_numberOfDigits, Cond.selects RX0 yX0_numberOfDigits yX0_numberOfDigits, Cond.code yX0_numberOfDigits cX0_numberOfDigits 4 (some .int)]
def wsX0_bend : List Cond := .code yX0_bend cX0_bend 4 (some .int) :: ((wsX0_bend_r1 ++ wsX0_bend_r2) ++ wsX00)
def wsX0_turnDigits : List Cond := .code yX0_turnDigits cX0_turnDigits 4 none :: ([.fieldLink RX0 9 "FlipHeaps" "thingCount" "I", .fieldLink RX0 45 "FlipHeaps" "chainLength" "I", .fieldLink RX0 23 "FlipHeaps" "chain" "[I", .methodLink RX0 127 yX0_flipDigit, .instanceMethod yX0_flipDigit, .selects RX0 yX0_flipDigit yX0_flipDigit, .initialized RX0, .code yX0_flipDigit cX0_flipDigit 6 none, .fieldLink RX0 13 "FlipHeaps" "under" "[I", .fieldLink RX0 26 "FlipHeaps" "digits" "[I", .methodLink RX0 173 Lib.Math.min.name, .static Lib.Math.min.name, .initialized "java/lang/Math", .code Lib.Math.min.name Lib.Math.min.code 2 (some .int), .fieldLink RX0 17 "FlipHeaps" "over" "[I", .methodLink RX0 160 Lib.Math.max.name, .static Lib.Math.max.name, .code Lib.Math.max.name Lib.Math.max.code 2 (some .int), .methodLink RX0 52 yX0_has, .static yX0_has, .code yX0_has cX0_has 2 (some .boolean)] ++ wsX00)
def wsX0_round_r1 : List Cond := [Cond.methodLink RX0 71 yX0_isTurnKind, Cond.static yX0_isTurnKind, Cond.initialized RX0, Cond.code yX0_isTurnKind cX0_isTurnKind 1 (some .boolean), Cond.methodLink RX0 124 yX0_readFilling, Cond.instanceMethod yX0_readFilling, Cond.selects RX0 yX0_readFilling yX0_readFilling, Cond.code yX0_readFilling cX0_readFilling 5 (some .boolean), Cond.fieldLink RX0 9 "FlipHeaps" "thingCount" "I", Cond.fieldLink RX0 26 "FlipHeaps" "digits" "[I", Cond.methodLink RX0 118 yX0_isHeight, Cond.static yX0_isHeight, Cond.code yX0_isHeight cX0_isHeight 1 (some .boolean), Cond.methodLink RX0 169 yX0_digitsFallUpwards, Cond.instanceMethod yX0_digitsFallUpwards, Cond.selects RX0 yX0_digitsFallUpwards yX0_digitsFallUpwards, Cond.code yX0_digitsFallUpwards cX0_digitsFallUpwards 3 (some .boolean), Cond.fieldLink RX0 13 "FlipHeaps" "under" "[I", Cond.methodLink RX0 52 yX0_has, Cond.static yX0_has, Cond.code yX0_has cX0_has 2 (some .boolean), Cond.methodLink RX0 134 yX0_turnDigits, Cond.instanceMethod yX0_turnDigits, Cond.selects RX0 yX0_turnDigits yX0_turnDigits]
def wsX0_round_r2 : List Cond := [Cond.code yX0_turnDigits cX0_turnDigits 4 none, Cond.fieldLink RX0 45 "FlipHeaps" "chainLength" "I", Cond.fieldLink RX0 23 "FlipHeaps" "chain" "[I", Cond.methodLink RX0 127 yX0_flipDigit, Cond.instanceMethod yX0_flipDigit, Cond.selects RX0 yX0_flipDigit yX0_flipDigit, Cond.code yX0_flipDigit cX0_flipDigit 6 none, Cond.methodLink RX0 173 Lib.Math.min.name, Cond.static Lib.Math.min.name, Cond.initialized "java/lang/Math", Cond.code Lib.Math.min.name Lib.Math.min.code 2 (some .int), Cond.fieldLink RX0 17 "FlipHeaps" "over" "[I", Cond.methodLink RX0 160 Lib.Math.max.name, Cond.static Lib.Math.max.name, Cond.code Lib.Math.max.name Lib.Math.max.code 2 (some .int), Cond.methodLink RX0 131 yX0_numberOfDigits, Cond.instanceMethod yX0_numberOfDigits, Cond.selects RX0 yX0_numberOfDigits yX0_numberOfDigits, Cond.code yX0_numberOfDigits cX0_numberOfDigits 4 (some .int)]
def wsX0_round : List Cond := .code yX0_round cX0_round 4 (some .int) :: ((wsX0_round_r1 ++ wsX0_round_r2) ++ wsX00)
def wsX0_period_r1 : List Cond := [Cond.methodLink RX0 71 yX0_isTurnKind, Cond.static yX0_isTurnKind, Cond.initialized RX0, Cond.code yX0_isTurnKind cX0_isTurnKind 1 (some .boolean), Cond.methodLink RX0 124 yX0_readFilling, Cond.instanceMethod yX0_readFilling, Cond.selects RX0 yX0_readFilling yX0_readFilling, Cond.code yX0_readFilling cX0_readFilling 5 (some .boolean), Cond.fieldLink RX0 9 "FlipHeaps" "thingCount" "I", Cond.fieldLink RX0 26 "FlipHeaps" "digits" "[I", Cond.methodLink RX0 118 yX0_isHeight, Cond.static yX0_isHeight, Cond.code yX0_isHeight cX0_isHeight 1 (some .boolean), Cond.methodLink RX0 169 yX0_digitsFallUpwards, Cond.instanceMethod yX0_digitsFallUpwards, Cond.selects RX0 yX0_digitsFallUpwards yX0_digitsFallUpwards, Cond.code yX0_digitsFallUpwards cX0_digitsFallUpwards 3 (some .boolean), Cond.fieldLink RX0 13 "FlipHeaps" "under" "[I", Cond.methodLink RX0 52 yX0_has, Cond.static yX0_has, Cond.code yX0_has cX0_has 2 (some .boolean), Cond.methodLink RX0 134 yX0_turnDigits, Cond.instanceMethod yX0_turnDigits, Cond.selects RX0 yX0_turnDigits yX0_turnDigits]
def wsX0_period_r2 : List Cond := [Cond.code yX0_turnDigits cX0_turnDigits 4 none, Cond.fieldLink RX0 45 "FlipHeaps" "chainLength" "I", Cond.fieldLink RX0 23 "FlipHeaps" "chain" "[I", Cond.methodLink RX0 127 yX0_flipDigit, Cond.instanceMethod yX0_flipDigit, Cond.selects RX0 yX0_flipDigit yX0_flipDigit, Cond.code yX0_flipDigit cX0_flipDigit 6 none, Cond.methodLink RX0 173 Lib.Math.min.name, Cond.static Lib.Math.min.name, Cond.initialized "java/lang/Math", Cond.code Lib.Math.min.name Lib.Math.min.code 2 (some .int), Cond.fieldLink RX0 17 "FlipHeaps" "over" "[I", Cond.methodLink RX0 160 Lib.Math.max.name, Cond.static Lib.Math.max.name, Cond.code Lib.Math.max.name Lib.Math.max.code 2 (some .int), Cond.methodLink RX0 131 yX0_numberOfDigits, Cond.instanceMethod yX0_numberOfDigits, Cond.selects RX0 yX0_numberOfDigits yX0_numberOfDigits, Cond.code yX0_numberOfDigits cX0_numberOfDigits 4 (some .int)]
def wsX0_period : List Cond := .code yX0_period cX0_period 5 (some .int) :: ((wsX0_period_r1 ++ wsX0_period_r2) ++ wsX00)
def wsX0_countSizes_r1 : List Cond := [Cond.fieldLink RX0 9 "FlipHeaps" "thingCount" "I", Cond.fieldLink RX0 29 "FlipHeaps" "sizes" "[I", Cond.methodLink RX0 63 yX0_setCount, Cond.instanceMethod yX0_setCount, Cond.selects RX0 yX0_setCount yX0_setCount, Cond.initialized RX0, Cond.code yX0_setCount cX0_setCount 1 (some .int), Cond.methodLink RX0 60 yX0_isHeap, Cond.instanceMethod yX0_isHeap, Cond.selects RX0 yX0_isHeap yX0_isHeap, Cond.code yX0_isHeap cX0_isHeap 3 (some .boolean), Cond.fieldLink RX0 13 "FlipHeaps" "under" "[I", Cond.methodLink RX0 57 yX0_isSet, Cond.instanceMethod yX0_isSet, Cond.selects RX0 yX0_isSet yX0_isSet, Cond.code yX0_isSet cX0_isSet 2 (some .boolean), Cond.methodLink RX0 52 yX0_has, Cond.static yX0_has, Cond.code yX0_has cX0_has 2 (some .boolean), Cond.methodLink RX0 153 yJ6_bitCount_0f7a4, Cond.static yJ6_bitCount_0f7a4, Cond.initialized RJ6, Cond.code yJ6_bitCount_0f7a4 cJ6_bitCount_0f7a4 1 (some .int), Cond.constant RJ6 265 (1431655765)]
def wsX0_countSizes_r2 : List Cond := [Cond.constant RJ6 266 (858993459), Cond.constant RJ6 267 (252645135)]
def wsX0_countSizes : List Cond := .code yX0_countSizes cX0_countSizes 2 none :: ((wsX0_countSizes_r1 ++ wsX0_countSizes_r2) ++ wsX00)
def wsX0_counts_r1 : List Cond := [Cond.fieldLink RX0 9 "FlipHeaps" "thingCount" "I", Cond.fieldLink RX0 29 "FlipHeaps" "sizes" "[I", Cond.methodLink RX0 137 yX0_countSizes, Cond.instanceMethod yX0_countSizes, Cond.selects RX0 yX0_countSizes yX0_countSizes, Cond.initialized RX0, Cond.code yX0_countSizes cX0_countSizes 2 none, Cond.methodLink RX0 63 yX0_setCount, Cond.instanceMethod yX0_setCount, Cond.selects RX0 yX0_setCount yX0_setCount, Cond.code yX0_setCount cX0_setCount 1 (some .int), Cond.methodLink RX0 60 yX0_isHeap, Cond.instanceMethod yX0_isHeap, Cond.selects RX0 yX0_isHeap yX0_isHeap, Cond.code yX0_isHeap cX0_isHeap 3 (some .boolean), Cond.fieldLink RX0 13 "FlipHeaps" "under" "[I", Cond.methodLink RX0 57 yX0_isSet, Cond.instanceMethod yX0_isSet, Cond.selects RX0 yX0_isSet yX0_isSet, Cond.code yX0_isSet cX0_isSet 2 (some .boolean), Cond.methodLink RX0 52 yX0_has, Cond.static yX0_has, Cond.code yX0_has cX0_has 2 (some .boolean), Cond.methodLink RX0 153 yJ6_bitCount_0f7a4]
def wsX0_counts_r2 : List Cond := [Cond.static yJ6_bitCount_0f7a4, Cond.initialized RJ6, Cond.code yJ6_bitCount_0f7a4 cJ6_bitCount_0f7a4 1 (some .int), Cond.constant RJ6 265 (1431655765), Cond.constant RJ6 266 (858993459), Cond.constant RJ6 267 (252645135)]
def wsX0_counts : List Cond := .code yX0_counts cX0_counts 2 (some .int) :: ((wsX0_counts_r1 ++ wsX0_counts_r2) ++ wsX00)
def wsX0_sumAtRoot_r1 : List Cond := [Cond.fieldLink RX0 9 "FlipHeaps" "thingCount" "I", Cond.fieldLink RX0 29 "FlipHeaps" "sizes" "[I", Cond.constant RX0 56 (-1000000), Cond.methodLink RX0 137 yX0_countSizes, Cond.instanceMethod yX0_countSizes, Cond.selects RX0 yX0_countSizes yX0_countSizes, Cond.initialized RX0, Cond.code yX0_countSizes cX0_countSizes 2 none, Cond.methodLink RX0 63 yX0_setCount, Cond.instanceMethod yX0_setCount, Cond.selects RX0 yX0_setCount yX0_setCount, Cond.code yX0_setCount cX0_setCount 1 (some .int), Cond.methodLink RX0 60 yX0_isHeap, Cond.instanceMethod yX0_isHeap, Cond.selects RX0 yX0_isHeap yX0_isHeap, Cond.code yX0_isHeap cX0_isHeap 3 (some .boolean), Cond.fieldLink RX0 13 "FlipHeaps" "under" "[I", Cond.methodLink RX0 57 yX0_isSet, Cond.instanceMethod yX0_isSet, Cond.selects RX0 yX0_isSet yX0_isSet, Cond.code yX0_isSet cX0_isSet 2 (some .boolean), Cond.methodLink RX0 52 yX0_has, Cond.static yX0_has, Cond.code yX0_has cX0_has 2 (some .boolean)]
def wsX0_sumAtRoot_r2 : List Cond := [Cond.methodLink RX0 153 yJ6_bitCount_0f7a4, Cond.static yJ6_bitCount_0f7a4, Cond.initialized RJ6, Cond.code yJ6_bitCount_0f7a4 cJ6_bitCount_0f7a4 1 (some .int), Cond.constant RJ6 265 (1431655765), Cond.constant RJ6 266 (858993459), Cond.constant RJ6 267 (252645135)]
def wsX0_sumAtRoot : List Cond := .code yX0_sumAtRoot cX0_sumAtRoot 7 (some .int) :: ((wsX0_sumAtRoot_r1 ++ wsX0_sumAtRoot_r2) ++ wsX00)
def wsX0_at_r1 : List Cond := [Cond.constant RX0 143 (-1000001), Cond.methodLink RX0 140 yX0_sumAtRoot, Cond.instanceMethod yX0_sumAtRoot, Cond.selects RX0 yX0_sumAtRoot yX0_sumAtRoot, Cond.initialized RX0, Cond.code yX0_sumAtRoot cX0_sumAtRoot 7 (some .int), Cond.fieldLink RX0 9 "FlipHeaps" "thingCount" "I", Cond.fieldLink RX0 29 "FlipHeaps" "sizes" "[I", Cond.constant RX0 56 (-1000000), Cond.methodLink RX0 137 yX0_countSizes, Cond.instanceMethod yX0_countSizes, Cond.selects RX0 yX0_countSizes yX0_countSizes, Cond.code yX0_countSizes cX0_countSizes 2 none, Cond.methodLink RX0 63 yX0_setCount, Cond.instanceMethod yX0_setCount, Cond.selects RX0 yX0_setCount yX0_setCount, Cond.code yX0_setCount cX0_setCount 1 (some .int), Cond.methodLink RX0 60 yX0_isHeap, Cond.instanceMethod yX0_isHeap, Cond.selects RX0 yX0_isHeap yX0_isHeap, Cond.code yX0_isHeap cX0_isHeap 3 (some .boolean), Cond.fieldLink RX0 13 "FlipHeaps" "under" "[I", Cond.methodLink RX0 57 yX0_isSet, Cond.instanceMethod yX0_isSet]
def wsX0_at_r2 : List Cond := [Cond.selects RX0 yX0_isSet yX0_isSet, Cond.code yX0_isSet cX0_isSet 2 (some .boolean), Cond.methodLink RX0 52 yX0_has, Cond.static yX0_has, Cond.code yX0_has cX0_has 2 (some .boolean), Cond.methodLink RX0 153 yJ6_bitCount_0f7a4, Cond.static yJ6_bitCount_0f7a4, Cond.initialized RJ6, Cond.code yJ6_bitCount_0f7a4 cJ6_bitCount_0f7a4 1 (some .int), Cond.constant RJ6 265 (1431655765), Cond.constant RJ6 266 (858993459), Cond.constant RJ6 267 (252645135)]
def wsX0_at : List Cond := .code yX0_at cX0_at 2 (some .int) :: ((wsX0_at_r1 ++ wsX0_at_r2) ++ wsX00)
def wsX0_stays_r1 : List Cond := [Cond.fieldLink RX0 38 "FlipHeaps" "lengths" "[I", Cond.methodLink RX0 71 yX0_isTurnKind, Cond.static yX0_isTurnKind, Cond.initialized RX0, Cond.code yX0_isTurnKind cX0_isTurnKind 1 (some .boolean), Cond.methodLink RX0 74 yX0_isTurnNumber, Cond.static yX0_isTurnNumber, Cond.code yX0_isTurnNumber cX0_isTurnNumber 1 (some .boolean), Cond.methodLink RX0 83 yX0_findOrbits, Cond.instanceMethod yX0_findOrbits, Cond.selects RX0 yX0_findOrbits yX0_findOrbits, Cond.code yX0_findOrbits cX0_findOrbits 4 (some .int), Cond.fieldLink RX0 41 "FlipHeaps" "seen" "[Z", Cond.fieldLink RX0 35 "FlipHeaps" "starts" "[I", Cond.methodLink RX0 63 yX0_setCount, Cond.instanceMethod yX0_setCount, Cond.selects RX0 yX0_setCount yX0_setCount, Cond.code yX0_setCount cX0_setCount 1 (some .int), Cond.fieldLink RX0 9 "FlipHeaps" "thingCount" "I", Cond.methodLink RX0 60 yX0_isHeap, Cond.instanceMethod yX0_isHeap, Cond.selects RX0 yX0_isHeap yX0_isHeap, Cond.code yX0_isHeap cX0_isHeap 3 (some .boolean), Cond.fieldLink RX0 13 "FlipHeaps" "under" "[I"]
def wsX0_stays_r2 : List Cond := [Cond.methodLink RX0 57 yX0_isSet, Cond.instanceMethod yX0_isSet, Cond.selects RX0 yX0_isSet yX0_isSet, Cond.code yX0_isSet cX0_isSet 2 (some .boolean), Cond.methodLink RX0 52 yX0_has, Cond.static yX0_has, Cond.code yX0_has cX0_has 2 (some .boolean), Cond.methodLink RX0 80 yX0_walkOrbit, Cond.instanceMethod yX0_walkOrbit, Cond.selects RX0 yX0_walkOrbit yX0_walkOrbit, Cond.code yX0_walkOrbit cX0_walkOrbit 5 (some .int), Cond.methodLink RX0 77 yX0_turned, Cond.instanceMethod yX0_turned, Cond.selects RX0 yX0_turned yX0_turned, Cond.code yX0_turned cX0_turned 3 (some .int), Cond.methodLink RX0 147 yX0_turnedRound, Cond.instanceMethod yX0_turnedRound, Cond.selects RX0 yX0_turnedRound yX0_turnedRound, Cond.code yX0_turnedRound cX0_turnedRound 4 (some .int), Cond.methodLink RX0 150 yX0_turnedByChain, Cond.instanceMethod yX0_turnedByChain, Cond.selects RX0 yX0_turnedByChain yX0_turnedByChain, Cond.code yX0_turnedByChain cX0_turnedByChain 4 (some .int), Cond.fieldLink RX0 45 "FlipHeaps" "chainLength" "I"]
def wsX0_stays_r3 : List Cond := [Cond.fieldLink RX0 23 "FlipHeaps" "chain" "[I", Cond.methodLink RX0 67 yX0_flipped, Cond.instanceMethod yX0_flipped, Cond.selects RX0 yX0_flipped yX0_flipped, Cond.code yX0_flipped cX0_flipped 4 (some .int), Cond.fieldLink RX0 17 "FlipHeaps" "over" "[I"]
def wsX0_stays : List Cond := .code yX0_stays cX0_stays 7 (some .int) :: ((wsX0_stays_r1 ++ (wsX0_stays_r2 ++ wsX0_stays_r3)) ++ wsX00)
def wsX0_pairCount : List Cond := .code yX0_pairCount cX0_pairCount 3 (some .int) :: ([.fieldLink RX0 9 "FlipHeaps" "thingCount" "I", .fieldLink RX0 13 "FlipHeaps" "under" "[I", .methodLink RX0 153 yJ6_bitCount_0f7a4, .static yJ6_bitCount_0f7a4, .initialized RJ6, .code yJ6_bitCount_0f7a4 cJ6_bitCount_0f7a4 1 (some .int), .constant RJ6 265 (1431655765), .constant RJ6 266 (858993459), .constant RJ6 267 (252645135)] ++ wsX00)
def wsX0_count : List Cond := .code yX0_count cX0_count 2 (some .int) :: ([.fieldLink RX0 9 "FlipHeaps" "thingCount" "I", .fieldLink RX0 45 "FlipHeaps" "chainLength" "I", .methodLink RX0 144 yX0_pairCount, .instanceMethod yX0_pairCount, .selects RX0 yX0_pairCount yX0_pairCount, .initialized RX0, .code yX0_pairCount cX0_pairCount 3 (some .int), .fieldLink RX0 13 "FlipHeaps" "under" "[I", .methodLink RX0 153 yJ6_bitCount_0f7a4, .static yJ6_bitCount_0f7a4, .initialized RJ6, .code yJ6_bitCount_0f7a4 cJ6_bitCount_0f7a4 1 (some .int), .constant RJ6 265 (1431655765), .constant RJ6 266 (858993459), .constant RJ6 267 (252645135)] ++ wsX00)
def wsX0_trace : List Cond := .code yX0_trace cX0_trace 1 (some .long) :: ([.fieldLink RX0 96 "FlipHeaps" "traced" "J"] ++ wsX00)
def wsX1_init : List Cond := .code yX1_init cX1_init 1 none :: ([.methodLink RX1 1 objectInit, .instanceMethod objectInit, .code objectInit ⟨#[0xb1]⟩ 1 none, .fieldLink RX1 7 "FlipHeapsModel" "things" "I", .arrayClass .boolean, .fieldLink RX1 13 "FlipHeapsModel" "isBelow" "[Z", .arrayClass .int, .fieldLink RX1 17 "FlipHeapsModel" "weight" "[I", .fieldLink RX1 21 "FlipHeapsModel" "word" "[I", .fieldLink RX1 24 "FlipHeapsModel" "isMet" "[Z", .fieldLink RX1 27 "FlipHeapsModel" "digit" "[I", .fieldLink RX1 30 "FlipHeapsModel" "rest" "[I", .fieldLink RX1 33 "FlipHeapsModel" "said" "I"] ++ wsX10)
def wsX1_in : List Cond := .code yX1_in cX1_in 3 (some .boolean) :: ([])
def wsX1_isThing : List Cond := .code yX1_isThing cX1_isThing 2 (some .boolean) :: ([.fieldLink RX1 7 "FlipHeapsModel" "things" "I", .methodLink RX1 36 yX1_in, .static yX1_in, .initialized RX1, .code yX1_in cX1_in 3 (some .boolean)] ++ wsX10)
def wsX1_things : List Cond := .code yX1_things cX1_things 4 (some .int) :: ([.fieldLink RX1 7 "FlipHeapsModel" "things" "I", .fieldLink RX1 33 "FlipHeapsModel" "said" "I", .fieldLink RX1 13 "FlipHeapsModel" "isBelow" "[Z", .fieldLink RX1 17 "FlipHeapsModel" "weight" "[I", .methodLink RX1 36 yX1_in, .static yX1_in, .initialized RX1, .code yX1_in cX1_in 3 (some .boolean)] ++ wsX10)
def wsX1_lay : List Cond := .code yX1_lay cX1_lay 6 (some .int) :: ([.fieldLink RX1 13 "FlipHeapsModel" "isBelow" "[Z", .fieldLink RX1 7 "FlipHeapsModel" "things" "I", .methodLink RX1 40 yX1_isThing, .instanceMethod yX1_isThing, .selects RX1 yX1_isThing yX1_isThing, .initialized RX1, .code yX1_isThing cX1_isThing 2 (some .boolean), .methodLink RX1 36 yX1_in, .static yX1_in, .code yX1_in cX1_in 3 (some .boolean)] ++ wsX10)
def wsX1_below : List Cond := .code yX1_below cX1_below 3 (some .int) :: ([.fieldLink RX1 13 "FlipHeapsModel" "isBelow" "[Z", .methodLink RX1 40 yX1_isThing, .instanceMethod yX1_isThing, .selects RX1 yX1_isThing yX1_isThing, .initialized RX1, .code yX1_isThing cX1_isThing 2 (some .boolean), .fieldLink RX1 7 "FlipHeapsModel" "things" "I", .methodLink RX1 36 yX1_in, .static yX1_in, .code yX1_in cX1_in 3 (some .boolean)] ++ wsX10)
def wsX1_weight : List Cond := .code yX1_weight cX1_weight 4 (some .int) :: ([.constant RX1 44 (-1000000), .fieldLink RX1 17 "FlipHeapsModel" "weight" "[I", .methodLink RX1 40 yX1_isThing, .instanceMethod yX1_isThing, .selects RX1 yX1_isThing yX1_isThing, .initialized RX1, .code yX1_isThing cX1_isThing 2 (some .boolean), .fieldLink RX1 7 "FlipHeapsModel" "things" "I", .methodLink RX1 36 yX1_in, .static yX1_in, .code yX1_in cX1_in 3 (some .boolean)] ++ wsX10)
def wsX1_say : List Cond := .code yX1_say cX1_say 2 (some .int) :: ([.fieldLink RX1 33 "FlipHeapsModel" "said" "I", .fieldLink RX1 21 "FlipHeapsModel" "word" "[I", .methodLink RX1 40 yX1_isThing, .instanceMethod yX1_isThing, .selects RX1 yX1_isThing yX1_isThing, .initialized RX1, .code yX1_isThing cX1_isThing 2 (some .boolean), .fieldLink RX1 7 "FlipHeapsModel" "things" "I", .methodLink RX1 36 yX1_in, .static yX1_in, .code yX1_in cX1_in 3 (some .boolean)] ++ wsX10)
def wsX1_hush : List Cond := .code yX1_hush cX1_hush 2 (some .int) :: ([.fieldLink RX1 33 "FlipHeapsModel" "said" "I"] ++ wsX10)
def wsX1_has : List Cond := .code yX1_has cX1_has 2 (some .boolean) :: ([])
def wsX1_isHeap : List Cond := .code yX1_isHeap cX1_isHeap 5 (some .boolean) :: ([.fieldLink RX1 7 "FlipHeapsModel" "things" "I", .fieldLink RX1 13 "FlipHeapsModel" "isBelow" "[Z", .methodLink RX1 36 yX1_in, .static yX1_in, .initialized RX1, .code yX1_in cX1_in 3 (some .boolean), .methodLink RX1 45 yX1_has, .static yX1_has, .code yX1_has cX1_has 2 (some .boolean)] ++ wsX10)
def wsX1_heap : List Cond := .code yX1_heap cX1_heap 2 (some .int) :: ([.fieldLink RX1 7 "FlipHeapsModel" "things" "I", .methodLink RX1 36 yX1_in, .static yX1_in, .initialized RX1, .code yX1_in cX1_in 3 (some .boolean), .methodLink RX1 49 yX1_isHeap, .instanceMethod yX1_isHeap, .selects RX1 yX1_isHeap yX1_isHeap, .code yX1_isHeap cX1_isHeap 5 (some .boolean), .fieldLink RX1 13 "FlipHeapsModel" "isBelow" "[Z", .methodLink RX1 45 yX1_has, .static yX1_has, .code yX1_has cX1_has 2 (some .boolean)] ++ wsX10)
def wsX1_many : List Cond := .code yX1_many cX1_many 3 (some .int) :: ([.fieldLink RX1 7 "FlipHeapsModel" "things" "I", .methodLink RX1 49 yX1_isHeap, .instanceMethod yX1_isHeap, .selects RX1 yX1_isHeap yX1_isHeap, .initialized RX1, .code yX1_isHeap cX1_isHeap 5 (some .boolean), .fieldLink RX1 13 "FlipHeapsModel" "isBelow" "[Z", .methodLink RX1 36 yX1_in, .static yX1_in, .code yX1_in cX1_in 3 (some .boolean), .methodLink RX1 45 yX1_has, .static yX1_has, .code yX1_has cX1_has 2 (some .boolean)] ++ wsX10)
def wsX1_flipped : List Cond := .code yX1_flipped cX1_flipped 4 (some .int) :: ([.methodLink RX1 49 yX1_isHeap, .instanceMethod yX1_isHeap, .selects RX1 yX1_isHeap yX1_isHeap, .initialized RX1, .code yX1_isHeap cX1_isHeap 5 (some .boolean), .fieldLink RX1 7 "FlipHeapsModel" "things" "I", .fieldLink RX1 13 "FlipHeapsModel" "isBelow" "[Z", .methodLink RX1 36 yX1_in, .static yX1_in, .code yX1_in cX1_in 3 (some .boolean), .methodLink RX1 45 yX1_has, .static yX1_has, .code yX1_has cX1_has 2 (some .boolean)] ++ wsX10)
def wsX1_flip : List Cond := .code yX1_flip cX1_flip 3 (some .int) :: ([.methodLink RX1 49 yX1_isHeap, .instanceMethod yX1_isHeap, .selects RX1 yX1_isHeap yX1_isHeap, .initialized RX1, .code yX1_isHeap cX1_isHeap 5 (some .boolean), .fieldLink RX1 7 "FlipHeapsModel" "things" "I", .fieldLink RX1 13 "FlipHeapsModel" "isBelow" "[Z", .methodLink RX1 36 yX1_in, .static yX1_in, .code yX1_in cX1_in 3 (some .boolean), .methodLink RX1 45 yX1_has, .static yX1_has, .code yX1_has cX1_has 2 (some .boolean), .methodLink RX1 40 yX1_isThing, .instanceMethod yX1_isThing, .selects RX1 yX1_isThing yX1_isThing, .code yX1_isThing cX1_isThing 2 (some .boolean), .methodLink RX1 52 yX1_flipped, .instanceMethod yX1_flipped, .selects RX1 yX1_flipped yX1_flipped, .code yX1_flipped cX1_flipped 4 (some .int)] ++ wsX10)
def wsX1_turned : List Cond := .code yX1_turned cX1_turned 9 (some .int) :: ([.fieldLink RX1 33 "FlipHeapsModel" "said" "I", .fieldLink RX1 21 "FlipHeapsModel" "word" "[I", .fieldLink RX1 7 "FlipHeapsModel" "things" "I", .fieldLink RX1 13 "FlipHeapsModel" "isBelow" "[Z", .methodLink RX1 52 yX1_flipped, .instanceMethod yX1_flipped, .selects RX1 yX1_flipped yX1_flipped, .initialized RX1, .code yX1_flipped cX1_flipped 4 (some .int), .methodLink RX1 49 yX1_isHeap, .instanceMethod yX1_isHeap, .selects RX1 yX1_isHeap yX1_isHeap, .code yX1_isHeap cX1_isHeap 5 (some .boolean), .methodLink RX1 36 yX1_in, .static yX1_in, .code yX1_in cX1_in 3 (some .boolean), .methodLink RX1 45 yX1_has, .static yX1_has, .code yX1_has cX1_has 2 (some .boolean)] ++ wsX10)
def wsX1_isKind : List Cond := .code yX1_isKind cX1_isKind 1 (some .boolean) :: ([.methodLink RX1 36 yX1_in, .static yX1_in, .initialized RX1, .code yX1_in cX1_in 3 (some .boolean)])
def wsX1_turn_r1 : List Cond := [Cond.methodLink RX1 49 yX1_isHeap, Cond.instanceMethod yX1_isHeap, Cond.selects RX1 yX1_isHeap yX1_isHeap, Cond.initialized RX1, Cond.code yX1_isHeap cX1_isHeap 5 (some .boolean), Cond.fieldLink RX1 7 "FlipHeapsModel" "things" "I", Cond.fieldLink RX1 13 "FlipHeapsModel" "isBelow" "[Z", Cond.methodLink RX1 36 yX1_in, Cond.static yX1_in, Cond.code yX1_in cX1_in 3 (some .boolean), Cond.methodLink RX1 45 yX1_has, Cond.static yX1_has, Cond.code yX1_has cX1_has 2 (some .boolean), Cond.methodLink RX1 56 yX1_isKind, Cond.static yX1_isKind, Cond.code yX1_isKind cX1_isKind 1 (some .boolean), Cond.methodLink RX1 59 yX1_turned, Cond.instanceMethod yX1_turned, Cond.selects RX1 yX1_turned yX1_turned, Cond.code yX1_turned cX1_turned 9 (some .int), Cond.fieldLink RX1 33 "FlipHeapsModel" "said" "I", Cond.fieldLink RX1 21 "FlipHeapsModel" "word" "[I", Cond.methodLink RX1 52 yX1_flipped, Cond.instanceMethod yX1_flipped]
def wsX1_turn_r2 : List Cond := [Cond.selects RX1 yX1_flipped yX1_flipped, Cond.code yX1_flipped cX1_flipped 4 (some .int)]
def wsX1_turn : List Cond := .code yX1_turn cX1_turn 6 (some .int) :: ((wsX1_turn_r1 ++ wsX1_turn_r2) ++ wsX10)
def wsX1_orbitOf : List Cond := .code yX1_orbitOf cX1_orbitOf 5 (some .int) :: ([.methodLink RX1 59 yX1_turned, .instanceMethod yX1_turned, .selects RX1 yX1_turned yX1_turned, .initialized RX1, .code yX1_turned cX1_turned 9 (some .int), .fieldLink RX1 33 "FlipHeapsModel" "said" "I", .fieldLink RX1 21 "FlipHeapsModel" "word" "[I", .fieldLink RX1 7 "FlipHeapsModel" "things" "I", .fieldLink RX1 13 "FlipHeapsModel" "isBelow" "[Z", .methodLink RX1 52 yX1_flipped, .instanceMethod yX1_flipped, .selects RX1 yX1_flipped yX1_flipped, .code yX1_flipped cX1_flipped 4 (some .int), .methodLink RX1 49 yX1_isHeap, .instanceMethod yX1_isHeap, .selects RX1 yX1_isHeap yX1_isHeap, .code yX1_isHeap cX1_isHeap 5 (some .boolean), .methodLink RX1 36 yX1_in, .static yX1_in, .code yX1_in cX1_in 3 (some .boolean), .methodLink RX1 45 yX1_has, .static yX1_has, .code yX1_has cX1_has 2 (some .boolean)] ++ wsX10)
def wsX1_orbit_r1 : List Cond := [Cond.methodLink RX1 49 yX1_isHeap, Cond.instanceMethod yX1_isHeap, Cond.selects RX1 yX1_isHeap yX1_isHeap, Cond.initialized RX1, Cond.code yX1_isHeap cX1_isHeap 5 (some .boolean), Cond.fieldLink RX1 7 "FlipHeapsModel" "things" "I", Cond.fieldLink RX1 13 "FlipHeapsModel" "isBelow" "[Z", Cond.methodLink RX1 36 yX1_in, Cond.static yX1_in, Cond.code yX1_in cX1_in 3 (some .boolean), Cond.methodLink RX1 45 yX1_has, Cond.static yX1_has, Cond.code yX1_has cX1_has 2 (some .boolean), Cond.methodLink RX1 56 yX1_isKind, Cond.static yX1_isKind, Cond.code yX1_isKind cX1_isKind 1 (some .boolean), Cond.methodLink RX1 62 yX1_orbitOf, Cond.instanceMethod yX1_orbitOf, Cond.selects RX1 yX1_orbitOf yX1_orbitOf, Cond.code yX1_orbitOf cX1_orbitOf 5 (some .int), Cond.methodLink RX1 59 yX1_turned, Cond.instanceMethod yX1_turned, Cond.selects RX1 yX1_turned yX1_turned, Cond.code yX1_turned cX1_turned 9 (some .int)]
def wsX1_orbit_r2 : List Cond := [Cond.fieldLink RX1 33 "FlipHeapsModel" "said" "I", Cond.fieldLink RX1 21 "FlipHeapsModel" "word" "[I", Cond.methodLink RX1 52 yX1_flipped, Cond.instanceMethod yX1_flipped, Cond.selects RX1 yX1_flipped yX1_flipped, Cond.code yX1_flipped cX1_flipped 4 (some .int)]
def wsX1_orbit : List Cond := .code yX1_orbit cX1_orbit 3 (some .int) :: ((wsX1_orbit_r1 ++ wsX1_orbit_r2) ++ wsX10)
def wsX1_common : List Cond := .code yX1_common cX1_common 10 (some .long) :: ([])
def wsX1_orbits_r1 : List Cond := [Cond.fieldLink RX1 24 "FlipHeapsModel" "isMet" "[Z", Cond.fieldLink RX1 7 "FlipHeapsModel" "things" "I", Cond.constantLong RX1 65 (1000000000), Cond.methodLink RX1 56 yX1_isKind, Cond.static yX1_isKind, Cond.initialized RX1, Cond.code yX1_isKind cX1_isKind 1 (some .boolean), Cond.methodLink RX1 36 yX1_in, Cond.static yX1_in, Cond.code yX1_in cX1_in 3 (some .boolean), Cond.methodLink RX1 49 yX1_isHeap, Cond.instanceMethod yX1_isHeap, Cond.selects RX1 yX1_isHeap yX1_isHeap, Cond.code yX1_isHeap cX1_isHeap 5 (some .boolean), Cond.fieldLink RX1 13 "FlipHeapsModel" "isBelow" "[Z", Cond.methodLink RX1 45 yX1_has, Cond.static yX1_has, Cond.code yX1_has cX1_has 2 (some .boolean), Cond.methodLink RX1 59 yX1_turned, Cond.instanceMethod yX1_turned, Cond.selects RX1 yX1_turned yX1_turned, Cond.code yX1_turned cX1_turned 9 (some .int), Cond.fieldLink RX1 33 "FlipHeapsModel" "said" "I", Cond.fieldLink RX1 21 "FlipHeapsModel" "word" "[I"]
def wsX1_orbits_r2 : List Cond := [Cond.methodLink RX1 52 yX1_flipped, Cond.instanceMethod yX1_flipped, Cond.selects RX1 yX1_flipped yX1_flipped, Cond.code yX1_flipped cX1_flipped 4 (some .int), Cond.methodLink RX1 67 yX1_common, Cond.static yX1_common, Cond.code yX1_common cX1_common 10 (some .long)]
def wsX1_orbits : List Cond := .code yX1_orbits cX1_orbits 10 (some .int) :: ((wsX1_orbits_r1 ++ wsX1_orbits_r2) ++ wsX10)
def wsX1_measureOf : List Cond := .code yX1_measureOf cX1_measureOf 7 (some .int) :: ([.fieldLink RX1 7 "FlipHeapsModel" "things" "I", .fieldLink RX1 13 "FlipHeapsModel" "isBelow" "[Z", .fieldLink RX1 17 "FlipHeapsModel" "weight" "[I", .methodLink RX1 45 yX1_has, .static yX1_has, .initialized RX1, .code yX1_has cX1_has 2 (some .boolean)] ++ wsX10)
def wsX1_measure : List Cond := .code yX1_measure cX1_measure 3 (some .int) :: ([.constant RX1 44 (-1000000), .fieldLink RX1 71 "FlipHeapsModel" "trace" "J", .constantLong RX1 75 (11), .constantLong RX1 77 (111), .methodLink RX1 36 yX1_in, .static yX1_in, .initialized RX1, .code yX1_in cX1_in 3 (some .boolean), .methodLink RX1 49 yX1_isHeap, .instanceMethod yX1_isHeap, .selects RX1 yX1_isHeap yX1_isHeap, .code yX1_isHeap cX1_isHeap 5 (some .boolean), .fieldLink RX1 7 "FlipHeapsModel" "things" "I", .fieldLink RX1 13 "FlipHeapsModel" "isBelow" "[Z", .methodLink RX1 45 yX1_has, .static yX1_has, .code yX1_has cX1_has 2 (some .boolean), .methodLink RX1 79 yX1_measureOf, .instanceMethod yX1_measureOf, .selects RX1 yX1_measureOf yX1_measureOf, .code yX1_measureOf cX1_measureOf 7 (some .int), .fieldLink RX1 17 "FlipHeapsModel" "weight" "[I"] ++ wsX10)
def wsX1_sumOf_r1 : List Cond := [Cond.methodLink RX1 79 yX1_measureOf, Cond.instanceMethod yX1_measureOf, Cond.selects RX1 yX1_measureOf yX1_measureOf, Cond.initialized RX1, Cond.code yX1_measureOf cX1_measureOf 7 (some .int), Cond.fieldLink RX1 7 "FlipHeapsModel" "things" "I", Cond.fieldLink RX1 13 "FlipHeapsModel" "isBelow" "[Z", Cond.fieldLink RX1 17 "FlipHeapsModel" "weight" "[I", Cond.methodLink RX1 45 yX1_has, Cond.static yX1_has, Cond.code yX1_has cX1_has 2 (some .boolean), Cond.methodLink RX1 59 yX1_turned, Cond.instanceMethod yX1_turned, Cond.selects RX1 yX1_turned yX1_turned, Cond.code yX1_turned cX1_turned 9 (some .int), Cond.fieldLink RX1 33 "FlipHeapsModel" "said" "I", Cond.fieldLink RX1 21 "FlipHeapsModel" "word" "[I", Cond.methodLink RX1 52 yX1_flipped, Cond.instanceMethod yX1_flipped, Cond.selects RX1 yX1_flipped yX1_flipped, Cond.code yX1_flipped cX1_flipped 4 (some .int), Cond.methodLink RX1 49 yX1_isHeap, Cond.instanceMethod yX1_isHeap, Cond.selects RX1 yX1_isHeap yX1_isHeap]
def wsX1_sumOf_r2 : List Cond := [Cond.code yX1_isHeap cX1_isHeap 5 (some .boolean), Cond.methodLink RX1 36 yX1_in, Cond.static yX1_in, Cond.code yX1_in cX1_in 3 (some .boolean)]
def wsX1_sumOf : List Cond := .code yX1_sumOf cX1_sumOf 6 (some .int) :: ((wsX1_sumOf_r1 ++ wsX1_sumOf_r2) ++ wsX10)
def wsX1_mean_r1 : List Cond := [Cond.constant RX1 44 (-1000000), Cond.methodLink RX1 49 yX1_isHeap, Cond.instanceMethod yX1_isHeap, Cond.selects RX1 yX1_isHeap yX1_isHeap, Cond.initialized RX1, Cond.code yX1_isHeap cX1_isHeap 5 (some .boolean), Cond.fieldLink RX1 7 "FlipHeapsModel" "things" "I", Cond.fieldLink RX1 13 "FlipHeapsModel" "isBelow" "[Z", Cond.methodLink RX1 36 yX1_in, Cond.static yX1_in, Cond.code yX1_in cX1_in 3 (some .boolean), Cond.methodLink RX1 45 yX1_has, Cond.static yX1_has, Cond.code yX1_has cX1_has 2 (some .boolean), Cond.methodLink RX1 56 yX1_isKind, Cond.static yX1_isKind, Cond.code yX1_isKind cX1_isKind 1 (some .boolean), Cond.methodLink RX1 82 yX1_sumOf, Cond.instanceMethod yX1_sumOf, Cond.selects RX1 yX1_sumOf yX1_sumOf, Cond.code yX1_sumOf cX1_sumOf 6 (some .int), Cond.methodLink RX1 79 yX1_measureOf, Cond.instanceMethod yX1_measureOf, Cond.selects RX1 yX1_measureOf yX1_measureOf]
def wsX1_mean_r2 : List Cond := [Cond.code yX1_measureOf cX1_measureOf 7 (some .int), Cond.fieldLink RX1 17 "FlipHeapsModel" "weight" "[I", Cond.methodLink RX1 59 yX1_turned, Cond.instanceMethod yX1_turned, Cond.selects RX1 yX1_turned yX1_turned, Cond.code yX1_turned cX1_turned 9 (some .int), Cond.fieldLink RX1 33 "FlipHeapsModel" "said" "I", Cond.fieldLink RX1 21 "FlipHeapsModel" "word" "[I", Cond.methodLink RX1 52 yX1_flipped, Cond.instanceMethod yX1_flipped, Cond.selects RX1 yX1_flipped yX1_flipped, Cond.code yX1_flipped cX1_flipped 4 (some .int), Cond.methodLink RX1 62 yX1_orbitOf, Cond.instanceMethod yX1_orbitOf, Cond.selects RX1 yX1_orbitOf yX1_orbitOf, Cond.code yX1_orbitOf cX1_orbitOf 5 (some .int), Cond.methodLink RX1 67 yX1_common, Cond.static yX1_common, Cond.code yX1_common cX1_common 10 (some .long)]
def wsX1_mean : List Cond := .code yX1_mean cX1_mean 8 (some .int) :: ((wsX1_mean_r1 ++ wsX1_mean_r2) ++ wsX10)
def wsX1_even_r1 : List Cond := [Cond.fieldLink RX1 7 "FlipHeapsModel" "things" "I", Cond.methodLink RX1 56 yX1_isKind, Cond.static yX1_isKind, Cond.initialized RX1, Cond.code yX1_isKind cX1_isKind 1 (some .boolean), Cond.methodLink RX1 36 yX1_in, Cond.static yX1_in, Cond.code yX1_in cX1_in 3 (some .boolean), Cond.methodLink RX1 82 yX1_sumOf, Cond.instanceMethod yX1_sumOf, Cond.selects RX1 yX1_sumOf yX1_sumOf, Cond.code yX1_sumOf cX1_sumOf 6 (some .int), Cond.methodLink RX1 79 yX1_measureOf, Cond.instanceMethod yX1_measureOf, Cond.selects RX1 yX1_measureOf yX1_measureOf, Cond.code yX1_measureOf cX1_measureOf 7 (some .int), Cond.fieldLink RX1 13 "FlipHeapsModel" "isBelow" "[Z", Cond.fieldLink RX1 17 "FlipHeapsModel" "weight" "[I", Cond.methodLink RX1 45 yX1_has, Cond.static yX1_has, Cond.code yX1_has cX1_has 2 (some .boolean), Cond.methodLink RX1 59 yX1_turned, Cond.instanceMethod yX1_turned, Cond.selects RX1 yX1_turned yX1_turned]
def wsX1_even_r2 : List Cond := [Cond.code yX1_turned cX1_turned 9 (some .int), Cond.fieldLink RX1 33 "FlipHeapsModel" "said" "I", Cond.fieldLink RX1 21 "FlipHeapsModel" "word" "[I", Cond.methodLink RX1 52 yX1_flipped, Cond.instanceMethod yX1_flipped, Cond.selects RX1 yX1_flipped yX1_flipped, Cond.code yX1_flipped cX1_flipped 4 (some .int), Cond.methodLink RX1 49 yX1_isHeap, Cond.instanceMethod yX1_isHeap, Cond.selects RX1 yX1_isHeap yX1_isHeap, Cond.code yX1_isHeap cX1_isHeap 5 (some .boolean), Cond.methodLink RX1 62 yX1_orbitOf, Cond.instanceMethod yX1_orbitOf, Cond.selects RX1 yX1_orbitOf yX1_orbitOf, Cond.code yX1_orbitOf cX1_orbitOf 5 (some .int)]
def wsX1_even : List Cond := .code yX1_even cX1_even 7 (some .int) :: ((wsX1_even_r1 ++ wsX1_even_r2) ++ wsX10)
def wsX1_take : List Cond := .code yX1_take cX1_take 7 (some .boolean) :: ([.fieldLink RX1 7 "FlipHeapsModel" "things" "I", .fieldLink RX1 27 "FlipHeapsModel" "digit" "[I", .fieldLink RX1 13 "FlipHeapsModel" "isBelow" "[Z"] ++ wsX10)
def wsX1_number : List Cond := .code yX1_number cX1_number 4 (some .int) :: ([.fieldLink RX1 7 "FlipHeapsModel" "things" "I", .fieldLink RX1 27 "FlipHeapsModel" "digit" "[I"] ++ wsX10)
def wsX1_bends : List Cond := .code yX1_bends cX1_bends 6 none :: ([.fieldLink RX1 7 "FlipHeapsModel" "things" "I", .fieldLink RX1 13 "FlipHeapsModel" "isBelow" "[Z", .fieldLink RX1 27 "FlipHeapsModel" "digit" "[I"] ++ wsX10)
def wsX1_rounds : List Cond := .code yX1_rounds cX1_rounds 4 none :: ([.fieldLink RX1 33 "FlipHeapsModel" "said" "I", .fieldLink RX1 21 "FlipHeapsModel" "word" "[I", .fieldLink RX1 7 "FlipHeapsModel" "things" "I", .methodLink RX1 86 yX1_bends, .instanceMethod yX1_bends, .selects RX1 yX1_bends yX1_bends, .initialized RX1, .code yX1_bends cX1_bends 6 none, .fieldLink RX1 13 "FlipHeapsModel" "isBelow" "[Z", .fieldLink RX1 27 "FlipHeapsModel" "digit" "[I"] ++ wsX10)
def wsX1_isHeight : List Cond := .code yX1_isHeight cX1_isHeight 1 (some .boolean) :: ([.methodLink RX1 36 yX1_in, .static yX1_in, .initialized RX1, .code yX1_in cX1_in 3 (some .boolean)])
def wsX1_fillings : List Cond := .code yX1_fillings cX1_fillings 5 (some .int) :: ([.fieldLink RX1 7 "FlipHeapsModel" "things" "I", .methodLink RX1 90 yX1_isHeight, .static yX1_isHeight, .initialized RX1, .code yX1_isHeight cX1_isHeight 1 (some .boolean), .methodLink RX1 36 yX1_in, .static yX1_in, .code yX1_in cX1_in 3 (some .boolean), .methodLink RX1 93 yX1_take, .instanceMethod yX1_take, .selects RX1 yX1_take yX1_take, .code yX1_take cX1_take 7 (some .boolean), .fieldLink RX1 27 "FlipHeapsModel" "digit" "[I", .fieldLink RX1 13 "FlipHeapsModel" "isBelow" "[Z"] ++ wsX10)
def wsX1_bend_r1 : List Cond := [Cond.methodLink RX1 90 yX1_isHeight, Cond.static yX1_isHeight, Cond.initialized RX1, Cond.code yX1_isHeight cX1_isHeight 1 (some .boolean), Cond.methodLink RX1 36 yX1_in, Cond.static yX1_in, Cond.code yX1_in cX1_in 3 (some .boolean), Cond.methodLink RX1 40 yX1_isThing, Cond.instanceMethod yX1_isThing, Cond.selects RX1 yX1_isThing yX1_isThing, Cond.code yX1_isThing cX1_isThing 2 (some .boolean), Cond.fieldLink RX1 7 "FlipHeapsModel" "things" "I", Cond.methodLink RX1 93 yX1_take, Cond.instanceMethod yX1_take, Cond.selects RX1 yX1_take yX1_take, Cond.code yX1_take cX1_take 7 (some .boolean), Cond.fieldLink RX1 27 "FlipHeapsModel" "digit" "[I", Cond.fieldLink RX1 13 "FlipHeapsModel" "isBelow" "[Z", Cond.methodLink RX1 86 yX1_bends, Cond.instanceMethod yX1_bends, Cond.selects RX1 yX1_bends yX1_bends, Cond.code yX1_bends cX1_bends 6 none, Cond.methodLink RX1 96 yX1_number, Cond.instanceMethod yX1_number]
def wsX1_bend_r2 : List Cond := [Cond.selects RX1 yX1_number yX1_number, Cond.code yX1_number cX1_number 4 (some .int)]
def wsX1_bend : List Cond := .code yX1_bend cX1_bend 4 (some .int) :: ((wsX1_bend_r1 ++ wsX1_bend_r2) ++ wsX10)
def wsX1_round_r1 : List Cond := [Cond.methodLink RX1 90 yX1_isHeight, Cond.static yX1_isHeight, Cond.initialized RX1, Cond.code yX1_isHeight cX1_isHeight 1 (some .boolean), Cond.methodLink RX1 36 yX1_in, Cond.static yX1_in, Cond.code yX1_in cX1_in 3 (some .boolean), Cond.methodLink RX1 56 yX1_isKind, Cond.static yX1_isKind, Cond.code yX1_isKind cX1_isKind 1 (some .boolean), Cond.methodLink RX1 93 yX1_take, Cond.instanceMethod yX1_take, Cond.selects RX1 yX1_take yX1_take, Cond.code yX1_take cX1_take 7 (some .boolean), Cond.fieldLink RX1 7 "FlipHeapsModel" "things" "I", Cond.fieldLink RX1 27 "FlipHeapsModel" "digit" "[I", Cond.fieldLink RX1 13 "FlipHeapsModel" "isBelow" "[Z", Cond.methodLink RX1 100 yX1_rounds, Cond.instanceMethod yX1_rounds, Cond.selects RX1 yX1_rounds yX1_rounds, Cond.code yX1_rounds cX1_rounds 4 none, Cond.fieldLink RX1 33 "FlipHeapsModel" "said" "I", Cond.fieldLink RX1 21 "FlipHeapsModel" "word" "[I", Cond.methodLink RX1 86 yX1_bends]
def wsX1_round_r2 : List Cond := [Cond.instanceMethod yX1_bends, Cond.selects RX1 yX1_bends yX1_bends, Cond.code yX1_bends cX1_bends 6 none, Cond.methodLink RX1 96 yX1_number, Cond.instanceMethod yX1_number, Cond.selects RX1 yX1_number yX1_number, Cond.code yX1_number cX1_number 4 (some .int)]
def wsX1_round : List Cond := .code yX1_round cX1_round 4 (some .int) :: ((wsX1_round_r1 ++ wsX1_round_r2) ++ wsX10)
def wsX1_period_r1 : List Cond := [Cond.methodLink RX1 90 yX1_isHeight, Cond.static yX1_isHeight, Cond.initialized RX1, Cond.code yX1_isHeight cX1_isHeight 1 (some .boolean), Cond.methodLink RX1 36 yX1_in, Cond.static yX1_in, Cond.code yX1_in cX1_in 3 (some .boolean), Cond.methodLink RX1 56 yX1_isKind, Cond.static yX1_isKind, Cond.code yX1_isKind cX1_isKind 1 (some .boolean), Cond.methodLink RX1 93 yX1_take, Cond.instanceMethod yX1_take, Cond.selects RX1 yX1_take yX1_take, Cond.code yX1_take cX1_take 7 (some .boolean), Cond.fieldLink RX1 7 "FlipHeapsModel" "things" "I", Cond.fieldLink RX1 27 "FlipHeapsModel" "digit" "[I", Cond.fieldLink RX1 13 "FlipHeapsModel" "isBelow" "[Z", Cond.methodLink RX1 100 yX1_rounds, Cond.instanceMethod yX1_rounds, Cond.selects RX1 yX1_rounds yX1_rounds, Cond.code yX1_rounds cX1_rounds 4 none, Cond.fieldLink RX1 33 "FlipHeapsModel" "said" "I", Cond.fieldLink RX1 21 "FlipHeapsModel" "word" "[I", Cond.methodLink RX1 86 yX1_bends]
def wsX1_period_r2 : List Cond := [Cond.instanceMethod yX1_bends, Cond.selects RX1 yX1_bends yX1_bends, Cond.code yX1_bends cX1_bends 6 none, Cond.methodLink RX1 96 yX1_number, Cond.instanceMethod yX1_number, Cond.selects RX1 yX1_number yX1_number, Cond.code yX1_number cX1_number 4 (some .int)]
def wsX1_period : List Cond := .code yX1_period cX1_period 6 (some .int) :: ((wsX1_period_r1 ++ wsX1_period_r2) ++ wsX10)
def wsX1_countOf : List Cond := .code yX1_countOf cX1_countOf 6 (some .int) :: ([.fieldLink RX1 7 "FlipHeapsModel" "things" "I", .methodLink RX1 45 yX1_has, .static yX1_has, .initialized RX1, .code yX1_has cX1_has 2 (some .boolean), .methodLink RX1 49 yX1_isHeap, .instanceMethod yX1_isHeap, .selects RX1 yX1_isHeap yX1_isHeap, .code yX1_isHeap cX1_isHeap 5 (some .boolean), .fieldLink RX1 13 "FlipHeapsModel" "isBelow" "[Z", .methodLink RX1 36 yX1_in, .static yX1_in, .code yX1_in cX1_in 3 (some .boolean)] ++ wsX10)
def wsX1_counts : List Cond := .code yX1_counts cX1_counts 2 (some .int) :: ([.fieldLink RX1 7 "FlipHeapsModel" "things" "I", .methodLink RX1 36 yX1_in, .static yX1_in, .initialized RX1, .code yX1_in cX1_in 3 (some .boolean), .methodLink RX1 103 yX1_countOf, .instanceMethod yX1_countOf, .selects RX1 yX1_countOf yX1_countOf, .code yX1_countOf cX1_countOf 6 (some .int), .methodLink RX1 45 yX1_has, .static yX1_has, .code yX1_has cX1_has 2 (some .boolean), .methodLink RX1 49 yX1_isHeap, .instanceMethod yX1_isHeap, .selects RX1 yX1_isHeap yX1_isHeap, .code yX1_isHeap cX1_isHeap 5 (some .boolean), .fieldLink RX1 13 "FlipHeapsModel" "isBelow" "[Z"] ++ wsX10)
def wsX1_at : List Cond := .code yX1_at cX1_at 3 (some .int) :: ([.constant RX1 106 (-1000001), .fieldLink RX1 30 "FlipHeapsModel" "rest" "[I", .fieldLink RX1 7 "FlipHeapsModel" "things" "I", .constant RX1 44 (-1000000), .methodLink RX1 36 yX1_in, .static yX1_in, .initialized RX1, .code yX1_in cX1_in 3 (some .boolean), .methodLink RX1 103 yX1_countOf, .instanceMethod yX1_countOf, .selects RX1 yX1_countOf yX1_countOf, .code yX1_countOf cX1_countOf 6 (some .int), .methodLink RX1 45 yX1_has, .static yX1_has, .code yX1_has cX1_has 2 (some .boolean), .methodLink RX1 49 yX1_isHeap, .instanceMethod yX1_isHeap, .selects RX1 yX1_isHeap yX1_isHeap, .code yX1_isHeap cX1_isHeap 5 (some .boolean), .fieldLink RX1 13 "FlipHeapsModel" "isBelow" "[Z"] ++ wsX10)
def wsX1_stays_r1 : List Cond := [Cond.fieldLink RX1 7 "FlipHeapsModel" "things" "I", Cond.methodLink RX1 56 yX1_isKind, Cond.static yX1_isKind, Cond.initialized RX1, Cond.code yX1_isKind cX1_isKind 1 (some .boolean), Cond.methodLink RX1 36 yX1_in, Cond.static yX1_in, Cond.code yX1_in cX1_in 3 (some .boolean), Cond.methodLink RX1 49 yX1_isHeap, Cond.instanceMethod yX1_isHeap, Cond.selects RX1 yX1_isHeap yX1_isHeap, Cond.code yX1_isHeap cX1_isHeap 5 (some .boolean), Cond.fieldLink RX1 13 "FlipHeapsModel" "isBelow" "[Z", Cond.methodLink RX1 45 yX1_has, Cond.static yX1_has, Cond.code yX1_has cX1_has 2 (some .boolean), Cond.methodLink RX1 62 yX1_orbitOf, Cond.instanceMethod yX1_orbitOf, Cond.selects RX1 yX1_orbitOf yX1_orbitOf, Cond.code yX1_orbitOf cX1_orbitOf 5 (some .int), Cond.methodLink RX1 59 yX1_turned, Cond.instanceMethod yX1_turned, Cond.selects RX1 yX1_turned yX1_turned, Cond.code yX1_turned cX1_turned 9 (some .int)]
def wsX1_stays_r2 : List Cond := [Cond.fieldLink RX1 33 "FlipHeapsModel" "said" "I", Cond.fieldLink RX1 21 "FlipHeapsModel" "word" "[I", Cond.methodLink RX1 52 yX1_flipped, Cond.instanceMethod yX1_flipped, Cond.selects RX1 yX1_flipped yX1_flipped, Cond.code yX1_flipped cX1_flipped 4 (some .int)]
def wsX1_stays : List Cond := .code yX1_stays cX1_stays 5 (some .int) :: ((wsX1_stays_r1 ++ wsX1_stays_r2) ++ wsX10)
def wsX1_count : List Cond := .code yX1_count cX1_count 4 (some .int) :: ([.fieldLink RX1 7 "FlipHeapsModel" "things" "I", .fieldLink RX1 33 "FlipHeapsModel" "said" "I", .fieldLink RX1 13 "FlipHeapsModel" "isBelow" "[Z"] ++ wsX10)
def wsX1_trace : List Cond := .code yX1_trace cX1_trace 1 (some .long) :: ([.fieldLink RX1 71 "FlipHeapsModel" "trace" "J"] ++ wsX10)
def wsJ9_abs_0f7a4 : List Cond := .code yJ9_abs_0f7a4 cJ9_abs_0f7a4 1 (some .int) :: ([])
def wsJ9_max_7cf53 : List Cond := .code yJ9_max_7cf53 cJ9_max_7cf53 2 (some .int) :: ([])
def wsJ9_min_7cf53 : List Cond := .code yJ9_min_7cf53 cJ9_min_7cf53 2 (some .int) :: ([])
def wsL_law_r1 : List Cond := [Cond.classLink RL 7 RX0, Cond.instantiable RX0 13, Cond.initialized RX0, Cond.classLink RL 10 RX1, Cond.instantiable RX1 9, Cond.initialized RX1, Cond.methodLink RL 9 yX0_init, Cond.instanceMethod yX0_init, Cond.code yX0_init cX0_init 1 none, Cond.methodLink RX0 1 objectInit, Cond.instanceMethod objectInit, Cond.code objectInit ⟨#[0xb1]⟩ 1 none, Cond.fieldLink RX0 9 "FlipHeaps" "thingCount" "I", Cond.arrayClass .int, Cond.fieldLink RX0 13 "FlipHeaps" "under" "[I", Cond.fieldLink RX0 17 "FlipHeaps" "over" "[I", Cond.fieldLink RX0 20 "FlipHeaps" "weights" "[I", Cond.fieldLink RX0 23 "FlipHeaps" "chain" "[I", Cond.fieldLink RX0 26 "FlipHeaps" "digits" "[I", Cond.fieldLink RX0 29 "FlipHeaps" "sizes" "[I", Cond.fieldLink RX0 32 "FlipHeaps" "ways" "[I", Cond.fieldLink RX0 35 "FlipHeaps" "starts" "[I", Cond.fieldLink RX0 38 "FlipHeaps" "lengths" "[I", Cond.arrayClass .boolean]
def wsL_law_r2 : List Cond := [Cond.fieldLink RX0 41 "FlipHeaps" "seen" "[Z", Cond.methodLink RL 12 yX1_init, Cond.instanceMethod yX1_init, Cond.code yX1_init cX1_init 1 none, Cond.methodLink RX1 1 objectInit, Cond.fieldLink RX1 7 "FlipHeapsModel" "things" "I", Cond.fieldLink RX1 13 "FlipHeapsModel" "isBelow" "[Z", Cond.fieldLink RX1 17 "FlipHeapsModel" "weight" "[I", Cond.fieldLink RX1 21 "FlipHeapsModel" "word" "[I", Cond.fieldLink RX1 24 "FlipHeapsModel" "isMet" "[Z", Cond.fieldLink RX1 27 "FlipHeapsModel" "digit" "[I", Cond.fieldLink RX1 30 "FlipHeapsModel" "rest" "[I", Cond.fieldLink RX1 33 "FlipHeapsModel" "said" "I", Cond.methodLink RL 13 yX0_things, Cond.instanceMethod yX0_things, Cond.selects RX0 yX0_things yX0_things, Cond.code yX0_things cX0_things 4 (some .int), Cond.fieldLink RX0 45 "FlipHeaps" "chainLength" "I", Cond.methodLink RL 17 yX1_things, Cond.instanceMethod yX1_things, Cond.selects RX1 yX1_things yX1_things, Cond.code yX1_things cX1_things 4 (some .int), Cond.methodLink RX1 36 yX1_in, Cond.static yX1_in]
def wsL_law_r3 : List Cond := [Cond.code yX1_in cX1_in 3 (some .boolean), Cond.methodLink RL 18 yX0_lay, Cond.instanceMethod yX0_lay, Cond.selects RX0 yX0_lay yX0_lay, Cond.code yX0_lay cX0_lay 6 (some .int), Cond.methodLink RX0 48 yX0_isThing, Cond.instanceMethod yX0_isThing, Cond.selects RX0 yX0_isThing yX0_isThing, Cond.code yX0_isThing cX0_isThing 2 (some .boolean), Cond.methodLink RX0 52 yX0_has, Cond.static yX0_has, Cond.code yX0_has cX0_has 2 (some .boolean), Cond.methodLink RL 22 yX1_lay, Cond.instanceMethod yX1_lay, Cond.selects RX1 yX1_lay yX1_lay, Cond.code yX1_lay cX1_lay 6 (some .int), Cond.methodLink RX1 40 yX1_isThing, Cond.instanceMethod yX1_isThing, Cond.selects RX1 yX1_isThing yX1_isThing, Cond.code yX1_isThing cX1_isThing 2 (some .boolean), Cond.methodLink RL 23 yX0_below, Cond.instanceMethod yX0_below, Cond.selects RX0 yX0_below yX0_below, Cond.code yX0_below cX0_below 3 (some .int)]
def wsL_law_r4 : List Cond := [Cond.methodLink RL 26 yX1_below, Cond.instanceMethod yX1_below, Cond.selects RX1 yX1_below yX1_below, Cond.code yX1_below cX1_below 3 (some .int), Cond.methodLink RL 27 yX0_weight, Cond.instanceMethod yX0_weight, Cond.selects RX0 yX0_weight yX0_weight, Cond.code yX0_weight cX0_weight 4 (some .int), Cond.constant RX0 56 (-1000000), Cond.methodLink RL 30 yX1_weight, Cond.instanceMethod yX1_weight, Cond.selects RX1 yX1_weight yX1_weight, Cond.code yX1_weight cX1_weight 4 (some .int), Cond.constant RX1 44 (-1000000), Cond.methodLink RL 31 yX0_say, Cond.instanceMethod yX0_say, Cond.selects RX0 yX0_say yX0_say, Cond.code yX0_say cX0_say 2 (some .int), Cond.methodLink RL 34 yX1_say, Cond.instanceMethod yX1_say, Cond.selects RX1 yX1_say yX1_say, Cond.code yX1_say cX1_say 2 (some .int), Cond.methodLink RL 35 yX0_hush, Cond.instanceMethod yX0_hush]
def wsL_law_r5 : List Cond := [Cond.selects RX0 yX0_hush yX0_hush, Cond.code yX0_hush cX0_hush 2 (some .int), Cond.methodLink RL 39 yX1_hush, Cond.instanceMethod yX1_hush, Cond.selects RX1 yX1_hush yX1_hush, Cond.code yX1_hush cX1_hush 2 (some .int), Cond.methodLink RL 40 yX0_heap, Cond.instanceMethod yX0_heap, Cond.selects RX0 yX0_heap yX0_heap, Cond.code yX0_heap cX0_heap 2 (some .int), Cond.methodLink RX0 57 yX0_isSet, Cond.instanceMethod yX0_isSet, Cond.selects RX0 yX0_isSet yX0_isSet, Cond.code yX0_isSet cX0_isSet 2 (some .boolean), Cond.methodLink RX0 63 yX0_setCount, Cond.instanceMethod yX0_setCount, Cond.selects RX0 yX0_setCount yX0_setCount, Cond.code yX0_setCount cX0_setCount 1 (some .int), Cond.methodLink RX0 60 yX0_isHeap, Cond.instanceMethod yX0_isHeap, Cond.selects RX0 yX0_isHeap yX0_isHeap, Cond.code yX0_isHeap cX0_isHeap 3 (some .boolean), Cond.methodLink RL 43 yX1_heap, Cond.instanceMethod yX1_heap]
def wsL_law_r6 : List Cond := [Cond.selects RX1 yX1_heap yX1_heap, Cond.code yX1_heap cX1_heap 2 (some .int), Cond.methodLink RX1 49 yX1_isHeap, Cond.instanceMethod yX1_isHeap, Cond.selects RX1 yX1_isHeap yX1_isHeap, Cond.code yX1_isHeap cX1_isHeap 5 (some .boolean), Cond.methodLink RX1 45 yX1_has, Cond.static yX1_has, Cond.code yX1_has cX1_has 2 (some .boolean), Cond.methodLink RL 44 yX0_many, Cond.instanceMethod yX0_many, Cond.selects RX0 yX0_many yX0_many, Cond.code yX0_many cX0_many 3 (some .int), Cond.methodLink RL 47 yX1_many, Cond.instanceMethod yX1_many, Cond.selects RX1 yX1_many yX1_many, Cond.code yX1_many cX1_many 3 (some .int), Cond.methodLink RL 48 yX0_flip, Cond.instanceMethod yX0_flip, Cond.selects RX0 yX0_flip yX0_flip, Cond.code yX0_flip cX0_flip 3 (some .int), Cond.methodLink RX0 67 yX0_flipped, Cond.instanceMethod yX0_flipped, Cond.selects RX0 yX0_flipped yX0_flipped]
def wsL_law_r7 : List Cond := [Cond.code yX0_flipped cX0_flipped 4 (some .int), Cond.methodLink RL 51 yX1_flip, Cond.instanceMethod yX1_flip, Cond.selects RX1 yX1_flip yX1_flip, Cond.code yX1_flip cX1_flip 3 (some .int), Cond.methodLink RX1 52 yX1_flipped, Cond.instanceMethod yX1_flipped, Cond.selects RX1 yX1_flipped yX1_flipped, Cond.code yX1_flipped cX1_flipped 4 (some .int), Cond.methodLink RL 52 yX0_turn, Cond.instanceMethod yX0_turn, Cond.selects RX0 yX0_turn yX0_turn, Cond.code yX0_turn cX0_turn 6 (some .int), Cond.methodLink RX0 71 yX0_isTurnKind, Cond.static yX0_isTurnKind, Cond.code yX0_isTurnKind cX0_isTurnKind 1 (some .boolean), Cond.methodLink RX0 74 yX0_isTurnNumber, Cond.static yX0_isTurnNumber, Cond.code yX0_isTurnNumber cX0_isTurnNumber 1 (some .boolean), Cond.methodLink RX0 77 yX0_turned, Cond.instanceMethod yX0_turned, Cond.selects RX0 yX0_turned yX0_turned, Cond.code yX0_turned cX0_turned 3 (some .int), Cond.methodLink RX0 147 yX0_turnedRound]
def wsL_law_r8 : List Cond := [Cond.instanceMethod yX0_turnedRound, Cond.selects RX0 yX0_turnedRound yX0_turnedRound, Cond.code yX0_turnedRound cX0_turnedRound 4 (some .int), Cond.methodLink RX0 150 yX0_turnedByChain, Cond.instanceMethod yX0_turnedByChain, Cond.selects RX0 yX0_turnedByChain yX0_turnedByChain, Cond.code yX0_turnedByChain cX0_turnedByChain 4 (some .int), Cond.methodLink RL 56 yX1_turn, Cond.instanceMethod yX1_turn, Cond.selects RX1 yX1_turn yX1_turn, Cond.code yX1_turn cX1_turn 6 (some .int), Cond.methodLink RX1 56 yX1_isKind, Cond.static yX1_isKind, Cond.code yX1_isKind cX1_isKind 1 (some .boolean), Cond.methodLink RX1 59 yX1_turned, Cond.instanceMethod yX1_turned, Cond.selects RX1 yX1_turned yX1_turned, Cond.code yX1_turned cX1_turned 9 (some .int), Cond.methodLink RL 57 yX0_orbit, Cond.instanceMethod yX0_orbit, Cond.selects RX0 yX0_orbit yX0_orbit, Cond.code yX0_orbit cX0_orbit 3 (some .int), Cond.methodLink RX0 80 yX0_walkOrbit, Cond.instanceMethod yX0_walkOrbit]
def wsL_law_r9 : List Cond := [Cond.selects RX0 yX0_walkOrbit yX0_walkOrbit, Cond.code yX0_walkOrbit cX0_walkOrbit 5 (some .int), Cond.methodLink RL 60 yX1_orbit, Cond.instanceMethod yX1_orbit, Cond.selects RX1 yX1_orbit yX1_orbit, Cond.code yX1_orbit cX1_orbit 3 (some .int), Cond.methodLink RX1 62 yX1_orbitOf, Cond.instanceMethod yX1_orbitOf, Cond.selects RX1 yX1_orbitOf yX1_orbitOf, Cond.code yX1_orbitOf cX1_orbitOf 5 (some .int), Cond.methodLink RL 61 yX0_orbits, Cond.instanceMethod yX0_orbits, Cond.selects RX0 yX0_orbits yX0_orbits, Cond.code yX0_orbits cX0_orbits 4 (some .int), Cond.methodLink RX0 83 yX0_findOrbits, Cond.instanceMethod yX0_findOrbits, Cond.selects RX0 yX0_findOrbits yX0_findOrbits, Cond.code yX0_findOrbits cX0_findOrbits 4 (some .int), Cond.methodLink RX0 87 yX0_orderOf, Cond.instanceMethod yX0_orderOf, Cond.selects RX0 yX0_orderOf yX0_orderOf, Cond.code yX0_orderOf cX0_orderOf 7 (some .int), Cond.constantLong RX0 158 (1000000000), Cond.methodLink RX0 115 yX0_commonDivisor]
def wsL_law_r10 : List Cond := [Cond.static yX0_commonDivisor, Cond.code yX0_commonDivisor cX0_commonDivisor 6 (some .int), Cond.methodLink RX0 160 Lib.Math.max.name, Cond.static Lib.Math.max.name, Cond.initialized "java/lang/Math", Cond.code Lib.Math.max.name Lib.Math.max.code 2 (some .int), Cond.methodLink RX0 90 yX0_longestOf, Cond.instanceMethod yX0_longestOf, Cond.selects RX0 yX0_longestOf yX0_longestOf, Cond.code yX0_longestOf cX0_longestOf 4 (some .int), Cond.methodLink RL 64 yX1_orbits, Cond.instanceMethod yX1_orbits, Cond.selects RX1 yX1_orbits yX1_orbits, Cond.code yX1_orbits cX1_orbits 10 (some .int), Cond.constantLong RX1 65 (1000000000), Cond.methodLink RX1 67 yX1_common, Cond.static yX1_common, Cond.code yX1_common cX1_common 10 (some .long), Cond.methodLink RL 65 yX0_measure, Cond.instanceMethod yX0_measure, Cond.selects RX0 yX0_measure yX0_measure, Cond.code yX0_measure cX0_measure 3 (some .int), Cond.fieldLink RX0 96 "FlipHeaps" "traced" "J", Cond.methodLink RX0 93 yX0_isMeasureKind]
def wsL_law_r11 : List Cond := [Cond.static yX0_isMeasureKind, Cond.code yX0_isMeasureKind cX0_isMeasureKind 1 (some .boolean), Cond.methodLink RX0 100 yX0_traceOf, Cond.static yX0_traceOf, Cond.code yX0_traceOf cX0_traceOf 2 (some .int), Cond.methodLink RX0 103 yX0_measured, Cond.instanceMethod yX0_measured, Cond.selects RX0 yX0_measured yX0_measured, Cond.code yX0_measured cX0_measured 3 (some .int), Cond.methodLink RX0 163 yX0_edged, Cond.instanceMethod yX0_edged, Cond.selects RX0 yX0_edged yX0_edged, Cond.code yX0_edged cX0_edged 4 (some .int), Cond.methodLink RX0 166 yX0_weighed, Cond.instanceMethod yX0_weighed, Cond.selects RX0 yX0_weighed yX0_weighed, Cond.code yX0_weighed cX0_weighed 4 (some .int), Cond.methodLink RX0 153 yJ6_bitCount_0f7a4, Cond.static yJ6_bitCount_0f7a4, Cond.initialized RJ6, Cond.code yJ6_bitCount_0f7a4 cJ6_bitCount_0f7a4 1 (some .int), Cond.constant RJ6 265 (1431655765), Cond.constant RJ6 266 (858993459), Cond.constant RJ6 267 (252645135)]
def wsL_law_r12 : List Cond := [Cond.methodLink RL 68 yX1_measure, Cond.instanceMethod yX1_measure, Cond.selects RX1 yX1_measure yX1_measure, Cond.code yX1_measure cX1_measure 3 (some .int), Cond.fieldLink RX1 71 "FlipHeapsModel" "trace" "J", Cond.constantLong RX1 75 (11), Cond.constantLong RX1 77 (111), Cond.methodLink RX1 79 yX1_measureOf, Cond.instanceMethod yX1_measureOf, Cond.selects RX1 yX1_measureOf yX1_measureOf, Cond.code yX1_measureOf cX1_measureOf 7 (some .int), Cond.methodLink RL 69 yX0_mean, Cond.instanceMethod yX0_mean, Cond.selects RX0 yX0_mean yX0_mean, Cond.code yX0_mean cX0_mean 8 (some .int), Cond.methodLink RX0 110 Lib.Math.abs.name, Cond.static Lib.Math.abs.name, Cond.code Lib.Math.abs.name Lib.Math.abs.code 1 (some .int), Cond.methodLink RX0 106 yX0_sumOfOrbit, Cond.instanceMethod yX0_sumOfOrbit, Cond.selects RX0 yX0_sumOfOrbit yX0_sumOfOrbit, Cond.code yX0_sumOfOrbit cX0_sumOfOrbit 8 (some .int), Cond.methodLink RL 73 yX1_mean, Cond.instanceMethod yX1_mean]
def wsL_law_r13 : List Cond := [Cond.selects RX1 yX1_mean yX1_mean, Cond.code yX1_mean cX1_mean 8 (some .int), Cond.methodLink RX1 82 yX1_sumOf, Cond.instanceMethod yX1_sumOf, Cond.selects RX1 yX1_sumOf yX1_sumOf, Cond.code yX1_sumOf cX1_sumOf 6 (some .int), Cond.methodLink RL 74 yX0_even, Cond.instanceMethod yX0_even, Cond.selects RX0 yX0_even yX0_even, Cond.code yX0_even cX0_even 8 (some .int), Cond.methodLink RL 77 yX1_even, Cond.instanceMethod yX1_even, Cond.selects RX1 yX1_even yX1_even, Cond.code yX1_even cX1_even 7 (some .int), Cond.methodLink RL 78 yX0_fillings, Cond.instanceMethod yX0_fillings, Cond.selects RX0 yX0_fillings yX0_fillings, Cond.code yX0_fillings cX0_fillings 4 (some .int), Cond.methodLink RX0 118 yX0_isHeight, Cond.static yX0_isHeight, Cond.code yX0_isHeight cX0_isHeight 1 (some .boolean), Cond.methodLink RX0 121 yX0_extendRows, Cond.instanceMethod yX0_extendRows, Cond.selects RX0 yX0_extendRows yX0_extendRows]
def wsL_law_r14 : List Cond := [Cond.code yX0_extendRows cX0_extendRows 3 none, Cond.methodLink RL 81 yX1_fillings, Cond.instanceMethod yX1_fillings, Cond.selects RX1 yX1_fillings yX1_fillings, Cond.code yX1_fillings cX1_fillings 5 (some .int), Cond.methodLink RX1 90 yX1_isHeight, Cond.static yX1_isHeight, Cond.code yX1_isHeight cX1_isHeight 1 (some .boolean), Cond.methodLink RX1 93 yX1_take, Cond.instanceMethod yX1_take, Cond.selects RX1 yX1_take yX1_take, Cond.code yX1_take cX1_take 7 (some .boolean), Cond.methodLink RL 82 yX0_bend, Cond.instanceMethod yX0_bend, Cond.selects RX0 yX0_bend yX0_bend, Cond.code yX0_bend cX0_bend 4 (some .int), Cond.methodLink RX0 124 yX0_readFilling, Cond.instanceMethod yX0_readFilling, Cond.selects RX0 yX0_readFilling yX0_readFilling, Cond.code yX0_readFilling cX0_readFilling 5 (some .boolean), Cond.methodLink RX0 169 yX0_digitsFallUpwards, Cond.instanceMethod yX0_digitsFallUpwards, Cond.selects RX0 yX0_digitsFallUpwards yX0_digitsFallUpwards, Cond.code yX0_digitsFallUpwards cX0_digitsFallUpwards 3 (some .boolean)]
def wsL_law_r15 : List Cond := [Cond.methodLink RX0 127 yX0_flipDigit, Cond.instanceMethod yX0_flipDigit, Cond.selects RX0 yX0_flipDigit yX0_flipDigit, Cond.code yX0_flipDigit cX0_flipDigit 6 none, Cond.methodLink RX0 173 Lib.Math.min.name, Cond.static Lib.Math.min.name, Cond.code Lib.Math.min.name Lib.Math.min.code 2 (some .int), Cond.methodLink RX0 131 yX0_numberOfDigits, Cond.instanceMethod yX0_numberOfDigits, Cond.selects RX0 yX0_numberOfDigits yX0_numberOfDigits, Cond.code yX0_numberOfDigits cX0_numberOfDigits 4 (some .int), Cond.methodLink RL 85 yX1_bend, Cond.instanceMethod yX1_bend, Cond.selects RX1 yX1_bend yX1_bend, Cond.code yX1_bend cX1_bend 4 (some .int), Cond.methodLink RX1 86 yX1_bends, Cond.instanceMethod yX1_bends, Cond.selects RX1 yX1_bends yX1_bends, Cond.code yX1_bends cX1_bends 6 none, Cond.methodLink RX1 96 yX1_number, Cond.instanceMethod yX1_number, Cond.selects RX1 yX1_number yX1_number, Cond.code yX1_number cX1_number 4 (some .int), Cond.methodLink RL 86 yX0_round]
def wsL_law_r16 : List Cond := [Cond.instanceMethod yX0_round, Cond.selects RX0 yX0_round yX0_round, Cond.code yX0_round cX0_round 4 (some .int), Cond.methodLink RX0 134 yX0_turnDigits, Cond.instanceMethod yX0_turnDigits, Cond.selects RX0 yX0_turnDigits yX0_turnDigits, Cond.code yX0_turnDigits cX0_turnDigits 4 none, Cond.methodLink RL 89 yX1_round, Cond.instanceMethod yX1_round, Cond.selects RX1 yX1_round yX1_round, Cond.code yX1_round cX1_round 4 (some .int), Cond.methodLink RX1 100 yX1_rounds, Cond.instanceMethod yX1_rounds, Cond.selects RX1 yX1_rounds yX1_rounds, Cond.code yX1_rounds cX1_rounds 4 none, Cond.methodLink RL 90 yX0_period, Cond.instanceMethod yX0_period, Cond.selects RX0 yX0_period yX0_period, Cond.code yX0_period cX0_period 5 (some .int), Cond.methodLink RL 93 yX1_period, Cond.instanceMethod yX1_period, Cond.selects RX1 yX1_period yX1_period, Cond.code yX1_period cX1_period 6 (some .int), Cond.methodLink RL 94 yX0_counts]
def wsL_law_r17 : List Cond := [Cond.instanceMethod yX0_counts, Cond.selects RX0 yX0_counts yX0_counts, Cond.code yX0_counts cX0_counts 2 (some .int), Cond.methodLink RX0 137 yX0_countSizes, Cond.instanceMethod yX0_countSizes, Cond.selects RX0 yX0_countSizes yX0_countSizes, Cond.code yX0_countSizes cX0_countSizes 2 none, Cond.methodLink RL 97 yX1_counts, Cond.instanceMethod yX1_counts, Cond.selects RX1 yX1_counts yX1_counts, Cond.code yX1_counts cX1_counts 2 (some .int), Cond.methodLink RX1 103 yX1_countOf, Cond.instanceMethod yX1_countOf, Cond.selects RX1 yX1_countOf yX1_countOf, Cond.code yX1_countOf cX1_countOf 6 (some .int), Cond.methodLink RL 98 yX0_at, Cond.instanceMethod yX0_at, Cond.selects RX0 yX0_at yX0_at, Cond.code yX0_at cX0_at 2 (some .int), Cond.constant RX0 143 (-1000001), Cond.methodLink RX0 140 yX0_sumAtRoot, Cond.instanceMethod yX0_sumAtRoot, Cond.selects RX0 yX0_sumAtRoot yX0_sumAtRoot, Cond.code yX0_sumAtRoot cX0_sumAtRoot 7 (some .int)]
def wsL_law_r18 : List Cond := [Cond.methodLink RL 101 yX1_at, Cond.instanceMethod yX1_at, Cond.selects RX1 yX1_at yX1_at, Cond.code yX1_at cX1_at 3 (some .int), Cond.constant RX1 106 (-1000001), Cond.methodLink RL 102 yX0_stays, Cond.instanceMethod yX0_stays, Cond.selects RX0 yX0_stays yX0_stays, Cond.code yX0_stays cX0_stays 7 (some .int), Cond.methodLink RL 105 yX1_stays, Cond.instanceMethod yX1_stays, Cond.selects RX1 yX1_stays yX1_stays, Cond.code yX1_stays cX1_stays 5 (some .int), Cond.methodLink RL 106 yX0_count, Cond.instanceMethod yX0_count, Cond.selects RX0 yX0_count yX0_count, Cond.code yX0_count cX0_count 2 (some .int), Cond.methodLink RX0 144 yX0_pairCount, Cond.instanceMethod yX0_pairCount, Cond.selects RX0 yX0_pairCount yX0_pairCount, Cond.code yX0_pairCount cX0_pairCount 3 (some .int), Cond.methodLink RL 109 yX1_count, Cond.instanceMethod yX1_count, Cond.selects RX1 yX1_count yX1_count]
def wsL_law_r19 : List Cond := [Cond.code yX1_count cX1_count 4 (some .int), Cond.methodLink RL 110 yX0_trace, Cond.instanceMethod yX0_trace, Cond.selects RX0 yX0_trace yX0_trace, Cond.code yX0_trace cX0_trace 1 (some .long), Cond.methodLink RL 114 yX1_trace, Cond.instanceMethod yX1_trace, Cond.selects RX1 yX1_trace yX1_trace, Cond.code yX1_trace cX1_trace 1 (some .long)]
def wsL_law : List Cond := (wsL_law_r1 ++ (wsL_law_r2 ++ (wsL_law_r3 ++ (wsL_law_r4 ++ (wsL_law_r5 ++ (wsL_law_r6 ++ (wsL_law_r7 ++ (wsL_law_r8 ++ (wsL_law_r9 ++ (wsL_law_r10 ++ (wsL_law_r11 ++ (wsL_law_r12 ++ (wsL_law_r13 ++ (wsL_law_r14 ++ (wsL_law_r15 ++ (wsL_law_r16 ++ (wsL_law_r17 ++ (wsL_law_r18 ++ wsL_law_r19)))))))))))))))))) ++ wsX00 ++ wsX10 ++ ([] : List Cond)
abbrev vwCl : List vw_C := [(RX0, TX0, 13), (RX1, TX1, 9)]
end
section
theorem dX0_init_0 : decode cX0_init 0 = .ok (.aload_n 0, 1) := by decide +kernel
theorem dX0_init_1 : decode cX0_init 1 = .ok (.invokespecial 1, 3) := by decide +kernel
theorem dX0_init_4 : decode cX0_init 4 = .ok (.aload_n 0, 1) := by decide +kernel
theorem dX0_init_5 : decode cX0_init 5 = .ok (.iconst 3, 1) := by decide +kernel
theorem dX0_init_6 : decode cX0_init 6 = .ok (.putfield 9, 3) := by decide +kernel
theorem dX0_init_9 : decode cX0_init 9 = .ok (.aload_n 0, 1) := by decide +kernel
theorem dX0_init_10 : decode cX0_init 10 = .ok (.bipush 8, 2) := by decide +kernel
theorem dX0_init_12 : decode cX0_init 12 = .ok (.newarray .int, 2) := by decide +kernel
theorem dX0_init_14 : decode cX0_init 14 = .ok (.putfield 13, 3) := by decide +kernel
theorem dX0_init_17 : decode cX0_init 17 = .ok (.aload_n 0, 1) := by decide +kernel
theorem dX0_init_18 : decode cX0_init 18 = .ok (.bipush 8, 2) := by decide +kernel
theorem dX0_init_20 : decode cX0_init 20 = .ok (.newarray .int, 2) := by decide +kernel
theorem dX0_init_22 : decode cX0_init 22 = .ok (.putfield 17, 3) := by decide +kernel
theorem dX0_init_25 : decode cX0_init 25 = .ok (.aload_n 0, 1) := by decide +kernel
theorem dX0_init_26 : decode cX0_init 26 = .ok (.bipush 8, 2) := by decide +kernel
theorem dX0_init_28 : decode cX0_init 28 = .ok (.newarray .int, 2) := by decide +kernel
theorem dX0_init_30 : decode cX0_init 30 = .ok (.putfield 20, 3) := by decide +kernel
theorem dX0_init_33 : decode cX0_init 33 = .ok (.aload_n 0, 1) := by decide +kernel
theorem dX0_init_34 : decode cX0_init 34 = .ok (.bipush 16, 2) := by decide +kernel
theorem dX0_init_36 : decode cX0_init 36 = .ok (.newarray .int, 2) := by decide +kernel
theorem dX0_init_38 : decode cX0_init 38 = .ok (.putfield 23, 3) := by decide +kernel
theorem dX0_init_41 : decode cX0_init 41 = .ok (.aload_n 0, 1) := by decide +kernel
theorem dX0_init_42 : decode cX0_init 42 = .ok (.bipush 8, 2) := by decide +kernel
theorem dX0_init_44 : decode cX0_init 44 = .ok (.newarray .int, 2) := by decide +kernel
theorem dX0_init_46 : decode cX0_init 46 = .ok (.putfield 26, 3) := by decide +kernel
theorem dX0_init_49 : decode cX0_init 49 = .ok (.aload_n 0, 1) := by decide +kernel
theorem dX0_init_50 : decode cX0_init 50 = .ok (.bipush 9, 2) := by decide +kernel
theorem dX0_init_52 : decode cX0_init 52 = .ok (.newarray .int, 2) := by decide +kernel
theorem dX0_init_54 : decode cX0_init 54 = .ok (.putfield 29, 3) := by decide +kernel
theorem dX0_init_57 : decode cX0_init 57 = .ok (.aload_n 0, 1) := by decide +kernel
theorem dX0_init_58 : decode cX0_init 58 = .ok (.sipush 256, 3) := by decide +kernel
theorem dX0_init_61 : decode cX0_init 61 = .ok (.newarray .int, 2) := by decide +kernel
theorem dX0_init_63 : decode cX0_init 63 = .ok (.putfield 32, 3) := by decide +kernel
theorem dX0_init_66 : decode cX0_init 66 = .ok (.aload_n 0, 1) := by decide +kernel
theorem dX0_init_67 : decode cX0_init 67 = .ok (.sipush 256, 3) := by decide +kernel
theorem dX0_init_70 : decode cX0_init 70 = .ok (.newarray .int, 2) := by decide +kernel
theorem dX0_init_72 : decode cX0_init 72 = .ok (.putfield 35, 3) := by decide +kernel
theorem dX0_init_75 : decode cX0_init 75 = .ok (.aload_n 0, 1) := by decide +kernel
theorem dX0_init_76 : decode cX0_init 76 = .ok (.sipush 256, 3) := by decide +kernel
theorem dX0_init_79 : decode cX0_init 79 = .ok (.newarray .int, 2) := by decide +kernel
theorem dX0_init_81 : decode cX0_init 81 = .ok (.putfield 38, 3) := by decide +kernel
theorem dX0_init_84 : decode cX0_init 84 = .ok (.aload_n 0, 1) := by decide +kernel
theorem dX0_init_85 : decode cX0_init 85 = .ok (.sipush 256, 3) := by decide +kernel
theorem dX0_init_88 : decode cX0_init 88 = .ok (.newarray .boolean, 2) := by decide +kernel
theorem dX0_init_90 : decode cX0_init 90 = .ok (.putfield 41, 3) := by decide +kernel
theorem dX0_init_93 : decode cX0_init 93 = .ok (.return_, 1) := by decide +kernel
theorem dX0_things_0 : decode cX0_things 0 = .ok (.iload_n 1, 1) := by decide +kernel
theorem dX0_things_1 : decode cX0_things 1 = .ok (.iconst 1, 1) := by decide +kernel
theorem dX0_things_2 : decode cX0_things 2 = .ok (.if_icmp .lt 9, 3) := by decide +kernel
theorem dX0_things_5 : decode cX0_things 5 = .ok (.iload_n 1, 1) := by decide +kernel
theorem dX0_things_6 : decode cX0_things 6 = .ok (.bipush 8, 2) := by decide +kernel
theorem dX0_things_8 : decode cX0_things 8 = .ok (.if_icmp .le 5, 3) := by decide +kernel
theorem dX0_things_11 : decode cX0_things 11 = .ok (.iconst (-1), 1) := by decide +kernel
theorem dX0_things_12 : decode cX0_things 12 = .ok (.ireturn, 1) := by decide +kernel
theorem dX0_things_13 : decode cX0_things 13 = .ok (.aload_n 0, 1) := by decide +kernel
theorem dX0_things_14 : decode cX0_things 14 = .ok (.getfield 9, 3) := by decide +kernel
theorem dX0_things_17 : decode cX0_things 17 = .ok (.istore_n 2, 1) := by decide +kernel
theorem dX0_things_18 : decode cX0_things 18 = .ok (.iconst 0, 1) := by decide +kernel
theorem dX0_things_19 : decode cX0_things 19 = .ok (.istore_n 3, 1) := by decide +kernel
theorem dX0_things_20 : decode cX0_things 20 = .ok (.iload_n 3, 1) := by decide +kernel
theorem dX0_things_21 : decode cX0_things 21 = .ok (.bipush 8, 2) := by decide +kernel
theorem dX0_things_23 : decode cX0_things 23 = .ok (.if_icmp .ge 30, 3) := by decide +kernel
theorem dX0_things_26 : decode cX0_things 26 = .ok (.aload_n 0, 1) := by decide +kernel
theorem dX0_things_27 : decode cX0_things 27 = .ok (.getfield 13, 3) := by decide +kernel
theorem dX0_things_30 : decode cX0_things 30 = .ok (.iload_n 3, 1) := by decide +kernel
theorem dX0_things_31 : decode cX0_things 31 = .ok (.iconst 0, 1) := by decide +kernel
theorem dX0_things_32 : decode cX0_things 32 = .ok (.iastore, 1) := by decide +kernel
theorem dX0_things_33 : decode cX0_things 33 = .ok (.aload_n 0, 1) := by decide +kernel
theorem dX0_things_34 : decode cX0_things 34 = .ok (.getfield 17, 3) := by decide +kernel
theorem dX0_things_37 : decode cX0_things 37 = .ok (.iload_n 3, 1) := by decide +kernel
theorem dX0_things_38 : decode cX0_things 38 = .ok (.iconst 0, 1) := by decide +kernel
theorem dX0_things_39 : decode cX0_things 39 = .ok (.iastore, 1) := by decide +kernel
theorem dX0_things_40 : decode cX0_things 40 = .ok (.aload_n 0, 1) := by decide +kernel
theorem dX0_things_41 : decode cX0_things 41 = .ok (.getfield 20, 3) := by decide +kernel
theorem dX0_things_44 : decode cX0_things 44 = .ok (.iload_n 3, 1) := by decide +kernel
theorem dX0_things_45 : decode cX0_things 45 = .ok (.iconst 0, 1) := by decide +kernel
theorem dX0_things_46 : decode cX0_things 46 = .ok (.iastore, 1) := by decide +kernel
theorem dX0_things_47 : decode cX0_things 47 = .ok (.iinc 3 1, 3) := by decide +kernel
theorem dX0_things_50 : decode cX0_things 50 = .ok (.goto (-30), 3) := by decide +kernel
theorem dX0_things_53 : decode cX0_things 53 = .ok (.aload_n 0, 1) := by decide +kernel
theorem dX0_things_54 : decode cX0_things 54 = .ok (.iload_n 1, 1) := by decide +kernel
theorem dX0_things_55 : decode cX0_things 55 = .ok (.putfield 9, 3) := by decide +kernel
theorem dX0_things_58 : decode cX0_things 58 = .ok (.aload_n 0, 1) := by decide +kernel
theorem dX0_things_59 : decode cX0_things 59 = .ok (.iconst 0, 1) := by decide +kernel
theorem dX0_things_60 : decode cX0_things 60 = .ok (.putfield 45, 3) := by decide +kernel
theorem dX0_things_63 : decode cX0_things 63 = .ok (.iload_n 2, 1) := by decide +kernel
theorem dX0_things_64 : decode cX0_things 64 = .ok (.ireturn, 1) := by decide +kernel
set_option maxRecDepth 20000 in
theorem ggX0_lay_X0_isThing : GoodIn wsX0_lay wsX0_isThing := goodIn_r _ [8, 3, 12, 13, 14, 15, 16, 17, 18, 19, 20, 21, 22, 23, 24] (by decide +kernel) (by decide +kernel)
set_option maxRecDepth 20000 in
theorem gX0_lay_X0_isThing : GoodIn wsX0_lay (wsV RX0 48 RX0 yX0_isThing wsX0_isThing) := goodIn_app (goodIn_of _ (by decide +kernel)) ggX0_lay_X0_isThing
set_option maxRecDepth 20000 in
theorem ggX0_lay_X0_has : GoodIn wsX0_lay wsX0_has := goodIn_r _ [11] (by decide +kernel) (by decide +kernel)
set_option maxRecDepth 20000 in
theorem gX0_lay_X0_has : GoodIn wsX0_lay (va_wsS RX0 52 yX0_has wsX0_has) := goodIn_app (goodIn_of _ (by decide +kernel)) ggX0_lay_X0_has
theorem dX0_lay_0 : decode cX0_lay 0 = .ok (.aload_n 0, 1) := by decide +kernel
theorem dX0_lay_1 : decode cX0_lay 1 = .ok (.iload_n 1, 1) := by decide +kernel
theorem dX0_lay_2 : decode cX0_lay 2 = .ok (.invokevirtual 48, 3) := by decide +kernel
theorem dX0_lay_5 : decode cX0_lay 5 = .ok (.ifCond .eq 16, 3) := by decide +kernel
theorem dX0_lay_8 : decode cX0_lay 8 = .ok (.aload_n 0, 1) := by decide +kernel
theorem dX0_lay_9 : decode cX0_lay 9 = .ok (.iload_n 2, 1) := by decide +kernel
theorem dX0_lay_10 : decode cX0_lay 10 = .ok (.invokevirtual 48, 3) := by decide +kernel
theorem dX0_lay_13 : decode cX0_lay 13 = .ok (.ifCond .eq 8, 3) := by decide +kernel
theorem dX0_lay_16 : decode cX0_lay 16 = .ok (.iload_n 1, 1) := by decide +kernel
theorem dX0_lay_17 : decode cX0_lay 17 = .ok (.iload_n 2, 1) := by decide +kernel
theorem dX0_lay_18 : decode cX0_lay 18 = .ok (.if_icmp .lt 5, 3) := by decide +kernel
theorem dX0_lay_21 : decode cX0_lay 21 = .ok (.iconst (-1), 1) := by decide +kernel
theorem dX0_lay_22 : decode cX0_lay 22 = .ok (.ireturn, 1) := by decide +kernel
theorem dX0_lay_23 : decode cX0_lay 23 = .ok (.aload_n 0, 1) := by decide +kernel
theorem dX0_lay_24 : decode cX0_lay 24 = .ok (.getfield 13, 3) := by decide +kernel
theorem dX0_lay_27 : decode cX0_lay 27 = .ok (.iload_n 2, 1) := by decide +kernel
theorem dX0_lay_28 : decode cX0_lay 28 = .ok (.iaload, 1) := by decide +kernel
theorem dX0_lay_29 : decode cX0_lay 29 = .ok (.iload_n 1, 1) := by decide +kernel
theorem dX0_lay_30 : decode cX0_lay 30 = .ok (.invokestatic 52, 3) := by decide +kernel
theorem dX0_lay_33 : decode cX0_lay 33 = .ok (.ifCond .eq 5, 3) := by decide +kernel
theorem dX0_lay_36 : decode cX0_lay 36 = .ok (.iconst 0, 1) := by decide +kernel
theorem dX0_lay_37 : decode cX0_lay 37 = .ok (.ireturn, 1) := by decide +kernel
theorem dX0_lay_38 : decode cX0_lay 38 = .ok (.aload_n 0, 1) := by decide +kernel
theorem dX0_lay_39 : decode cX0_lay 39 = .ok (.getfield 13, 3) := by decide +kernel
theorem dX0_lay_42 : decode cX0_lay 42 = .ok (.iload_n 1, 1) := by decide +kernel
theorem dX0_lay_43 : decode cX0_lay 43 = .ok (.iaload, 1) := by decide +kernel
theorem dX0_lay_44 : decode cX0_lay 44 = .ok (.iconst 1, 1) := by decide +kernel
theorem dX0_lay_45 : decode cX0_lay 45 = .ok (.iload_n 1, 1) := by decide +kernel
theorem dX0_lay_46 : decode cX0_lay 46 = .ok (.ishl, 1) := by decide +kernel
theorem dX0_lay_47 : decode cX0_lay 47 = .ok (.ior, 1) := by decide +kernel
theorem dX0_lay_48 : decode cX0_lay 48 = .ok (.istore_n 3, 1) := by decide +kernel
theorem dX0_lay_49 : decode cX0_lay 49 = .ok (.aload_n 0, 1) := by decide +kernel
theorem dX0_lay_50 : decode cX0_lay 50 = .ok (.getfield 17, 3) := by decide +kernel
theorem dX0_lay_53 : decode cX0_lay 53 = .ok (.iload_n 2, 1) := by decide +kernel
theorem dX0_lay_54 : decode cX0_lay 54 = .ok (.iaload, 1) := by decide +kernel
theorem dX0_lay_55 : decode cX0_lay 55 = .ok (.iconst 1, 1) := by decide +kernel
theorem dX0_lay_56 : decode cX0_lay 56 = .ok (.iload_n 2, 1) := by decide +kernel
theorem dX0_lay_57 : decode cX0_lay 57 = .ok (.ishl, 1) := by decide +kernel
theorem dX0_lay_58 : decode cX0_lay 58 = .ok (.ior, 1) := by decide +kernel
theorem dX0_lay_59 : decode cX0_lay 59 = .ok (.istore 4, 2) := by decide +kernel
theorem dX0_lay_61 : decode cX0_lay 61 = .ok (.iconst 0, 1) := by decide +kernel
theorem dX0_lay_62 : decode cX0_lay 62 = .ok (.istore 5, 2) := by decide +kernel
theorem dX0_lay_64 : decode cX0_lay 64 = .ok (.iload 5, 2) := by decide +kernel
theorem dX0_lay_66 : decode cX0_lay 66 = .ok (.aload_n 0, 1) := by decide +kernel
theorem dX0_lay_67 : decode cX0_lay 67 = .ok (.getfield 9, 3) := by decide +kernel
theorem dX0_lay_70 : decode cX0_lay 70 = .ok (.if_icmp .ge 51, 3) := by decide +kernel
theorem dX0_lay_73 : decode cX0_lay 73 = .ok (.iload_n 3, 1) := by decide +kernel
theorem dX0_lay_74 : decode cX0_lay 74 = .ok (.iload 5, 2) := by decide +kernel
theorem dX0_lay_76 : decode cX0_lay 76 = .ok (.invokestatic 52, 3) := by decide +kernel
theorem dX0_lay_79 : decode cX0_lay 79 = .ok (.ifCond .eq 15, 3) := by decide +kernel
theorem dX0_lay_82 : decode cX0_lay 82 = .ok (.aload_n 0, 1) := by decide +kernel
theorem dX0_lay_83 : decode cX0_lay 83 = .ok (.getfield 17, 3) := by decide +kernel
theorem dX0_lay_86 : decode cX0_lay 86 = .ok (.iload 5, 2) := by decide +kernel
theorem dX0_lay_88 : decode cX0_lay 88 = .ok (.dup2, 1) := by decide +kernel
theorem dX0_lay_89 : decode cX0_lay 89 = .ok (.iaload, 1) := by decide +kernel
theorem dX0_lay_90 : decode cX0_lay 90 = .ok (.iload 4, 2) := by decide +kernel
theorem dX0_lay_92 : decode cX0_lay 92 = .ok (.ior, 1) := by decide +kernel
theorem dX0_lay_93 : decode cX0_lay 93 = .ok (.iastore, 1) := by decide +kernel
theorem dX0_lay_94 : decode cX0_lay 94 = .ok (.iload 4, 2) := by decide +kernel
theorem dX0_lay_96 : decode cX0_lay 96 = .ok (.iload 5, 2) := by decide +kernel
theorem dX0_lay_98 : decode cX0_lay 98 = .ok (.invokestatic 52, 3) := by decide +kernel
theorem dX0_lay_101 : decode cX0_lay 101 = .ok (.ifCond .eq 14, 3) := by decide +kernel
theorem dX0_lay_104 : decode cX0_lay 104 = .ok (.aload_n 0, 1) := by decide +kernel
theorem dX0_lay_105 : decode cX0_lay 105 = .ok (.getfield 13, 3) := by decide +kernel
theorem dX0_lay_108 : decode cX0_lay 108 = .ok (.iload 5, 2) := by decide +kernel
theorem dX0_lay_110 : decode cX0_lay 110 = .ok (.dup2, 1) := by decide +kernel
theorem dX0_lay_111 : decode cX0_lay 111 = .ok (.iaload, 1) := by decide +kernel
theorem dX0_lay_112 : decode cX0_lay 112 = .ok (.iload_n 3, 1) := by decide +kernel
theorem dX0_lay_113 : decode cX0_lay 113 = .ok (.ior, 1) := by decide +kernel
theorem dX0_lay_114 : decode cX0_lay 114 = .ok (.iastore, 1) := by decide +kernel
theorem dX0_lay_115 : decode cX0_lay 115 = .ok (.iinc 5 1, 3) := by decide +kernel
theorem dX0_lay_118 : decode cX0_lay 118 = .ok (.goto (-54), 3) := by decide +kernel
theorem dX0_lay_121 : decode cX0_lay 121 = .ok (.iconst 1, 1) := by decide +kernel
theorem dX0_lay_122 : decode cX0_lay 122 = .ok (.ireturn, 1) := by decide +kernel
set_option maxRecDepth 20000 in
theorem ggX0_below_X0_isThing : GoodIn wsX0_below wsX0_isThing := goodIn_r _ [6, 7, 11, 12, 13, 14, 15, 16, 17, 18, 19, 20, 21, 22, 23] (by decide +kernel) (by decide +kernel)
set_option maxRecDepth 20000 in
theorem gX0_below_X0_isThing : GoodIn wsX0_below (wsV RX0 48 RX0 yX0_isThing wsX0_isThing) := goodIn_app (goodIn_of _ (by decide +kernel)) ggX0_below_X0_isThing
set_option maxRecDepth 20000 in
theorem ggX0_below_X0_has : GoodIn wsX0_below wsX0_has := goodIn_r _ [10] (by decide +kernel) (by decide +kernel)
set_option maxRecDepth 20000 in
theorem gX0_below_X0_has : GoodIn wsX0_below (va_wsS RX0 52 yX0_has wsX0_has) := goodIn_app (goodIn_of _ (by decide +kernel)) ggX0_below_X0_has
theorem dX0_below_0 : decode cX0_below 0 = .ok (.aload_n 0, 1) := by decide +kernel
theorem dX0_below_1 : decode cX0_below 1 = .ok (.iload_n 1, 1) := by decide +kernel
theorem dX0_below_2 : decode cX0_below 2 = .ok (.invokevirtual 48, 3) := by decide +kernel
theorem dX0_below_5 : decode cX0_below 5 = .ok (.ifCond .eq 11, 3) := by decide +kernel
theorem dX0_below_8 : decode cX0_below 8 = .ok (.aload_n 0, 1) := by decide +kernel
theorem dX0_below_9 : decode cX0_below 9 = .ok (.iload_n 2, 1) := by decide +kernel
theorem dX0_below_10 : decode cX0_below 10 = .ok (.invokevirtual 48, 3) := by decide +kernel
theorem dX0_below_13 : decode cX0_below 13 = .ok (.ifCond .ne 5, 3) := by decide +kernel
theorem dX0_below_16 : decode cX0_below 16 = .ok (.iconst (-1), 1) := by decide +kernel
theorem dX0_below_17 : decode cX0_below 17 = .ok (.ireturn, 1) := by decide +kernel
theorem dX0_below_18 : decode cX0_below 18 = .ok (.aload_n 0, 1) := by decide +kernel
theorem dX0_below_19 : decode cX0_below 19 = .ok (.getfield 13, 3) := by decide +kernel
theorem dX0_below_22 : decode cX0_below 22 = .ok (.iload_n 2, 1) := by decide +kernel
theorem dX0_below_23 : decode cX0_below 23 = .ok (.iaload, 1) := by decide +kernel
theorem dX0_below_24 : decode cX0_below 24 = .ok (.iload_n 1, 1) := by decide +kernel
theorem dX0_below_25 : decode cX0_below 25 = .ok (.invokestatic 52, 3) := by decide +kernel
theorem dX0_below_28 : decode cX0_below 28 = .ok (.ifCond .eq 7, 3) := by decide +kernel
theorem dX0_below_31 : decode cX0_below 31 = .ok (.iconst 1, 1) := by decide +kernel
theorem dX0_below_32 : decode cX0_below 32 = .ok (.goto 4, 3) := by decide +kernel
theorem dX0_below_35 : decode cX0_below 35 = .ok (.iconst 0, 1) := by decide +kernel
theorem dX0_below_36 : decode cX0_below 36 = .ok (.ireturn, 1) := by decide +kernel
set_option maxRecDepth 20000 in
theorem ggX0_weight_X0_isThing : GoodIn wsX0_weight wsX0_isThing := goodIn_r _ [7, 8, 9, 10, 11, 12, 13, 14, 15, 16, 17, 18, 19, 20, 21] (by decide +kernel) (by decide +kernel)
set_option maxRecDepth 20000 in
theorem gX0_weight_X0_isThing : GoodIn wsX0_weight (wsV RX0 48 RX0 yX0_isThing wsX0_isThing) := goodIn_app (goodIn_of _ (by decide +kernel)) ggX0_weight_X0_isThing
theorem dX0_weight_0 : decode cX0_weight 0 = .ok (.aload_n 0, 1) := by decide +kernel
theorem dX0_weight_1 : decode cX0_weight 1 = .ok (.iload_n 1, 1) := by decide +kernel
theorem dX0_weight_2 : decode cX0_weight 2 = .ok (.invokevirtual 48, 3) := by decide +kernel
theorem dX0_weight_5 : decode cX0_weight 5 = .ok (.ifCond .eq 15, 3) := by decide +kernel
theorem dX0_weight_8 : decode cX0_weight 8 = .ok (.iload_n 2, 1) := by decide +kernel
theorem dX0_weight_9 : decode cX0_weight 9 = .ok (.bipush (-9), 2) := by decide +kernel
theorem dX0_weight_11 : decode cX0_weight 11 = .ok (.if_icmp .lt 9, 3) := by decide +kernel
theorem dX0_weight_14 : decode cX0_weight 14 = .ok (.iload_n 2, 1) := by decide +kernel
theorem dX0_weight_15 : decode cX0_weight 15 = .ok (.bipush 9, 2) := by decide +kernel
theorem dX0_weight_17 : decode cX0_weight 17 = .ok (.if_icmp .le 6, 3) := by decide +kernel
theorem dX0_weight_20 : decode cX0_weight 20 = .ok (.ldc 56, 2) := by decide +kernel
theorem dX0_weight_22 : decode cX0_weight 22 = .ok (.ireturn, 1) := by decide +kernel
theorem dX0_weight_23 : decode cX0_weight 23 = .ok (.aload_n 0, 1) := by decide +kernel
theorem dX0_weight_24 : decode cX0_weight 24 = .ok (.getfield 20, 3) := by decide +kernel
theorem dX0_weight_27 : decode cX0_weight 27 = .ok (.iload_n 1, 1) := by decide +kernel
theorem dX0_weight_28 : decode cX0_weight 28 = .ok (.iaload, 1) := by decide +kernel
theorem dX0_weight_29 : decode cX0_weight 29 = .ok (.istore_n 3, 1) := by decide +kernel
theorem dX0_weight_30 : decode cX0_weight 30 = .ok (.aload_n 0, 1) := by decide +kernel
theorem dX0_weight_31 : decode cX0_weight 31 = .ok (.getfield 20, 3) := by decide +kernel
theorem dX0_weight_34 : decode cX0_weight 34 = .ok (.iload_n 1, 1) := by decide +kernel
theorem dX0_weight_35 : decode cX0_weight 35 = .ok (.iload_n 2, 1) := by decide +kernel
theorem dX0_weight_36 : decode cX0_weight 36 = .ok (.iastore, 1) := by decide +kernel
theorem dX0_weight_37 : decode cX0_weight 37 = .ok (.iload_n 3, 1) := by decide +kernel
theorem dX0_weight_38 : decode cX0_weight 38 = .ok (.ireturn, 1) := by decide +kernel
set_option maxRecDepth 20000 in
theorem ggX0_say_X0_isThing : GoodIn wsX0_say wsX0_isThing := goodIn_r _ [7, 8, 9, 10, 11, 12, 13, 14, 15, 16, 17, 18, 19, 20, 21] (by decide +kernel) (by decide +kernel)
set_option maxRecDepth 20000 in
theorem gX0_say_X0_isThing : GoodIn wsX0_say (wsV RX0 48 RX0 yX0_isThing wsX0_isThing) := goodIn_app (goodIn_of _ (by decide +kernel)) ggX0_say_X0_isThing
theorem dX0_say_0 : decode cX0_say 0 = .ok (.aload_n 0, 1) := by decide +kernel
theorem dX0_say_1 : decode cX0_say 1 = .ok (.iload_n 1, 1) := by decide +kernel
theorem dX0_say_2 : decode cX0_say 2 = .ok (.invokevirtual 48, 3) := by decide +kernel
theorem dX0_say_5 : decode cX0_say 5 = .ok (.ifCond .ne 5, 3) := by decide +kernel
theorem dX0_say_8 : decode cX0_say 8 = .ok (.iconst (-1), 1) := by decide +kernel
theorem dX0_say_9 : decode cX0_say 9 = .ok (.ireturn, 1) := by decide +kernel
theorem dX0_say_10 : decode cX0_say 10 = .ok (.aload_n 0, 1) := by decide +kernel
theorem dX0_say_11 : decode cX0_say 11 = .ok (.getfield 45, 3) := by decide +kernel
theorem dX0_say_14 : decode cX0_say 14 = .ok (.bipush 16, 2) := by decide +kernel
theorem dX0_say_16 : decode cX0_say 16 = .ok (.if_icmp .lt 6, 3) := by decide +kernel
theorem dX0_say_19 : decode cX0_say 19 = .ok (.bipush (-3), 2) := by decide +kernel
theorem dX0_say_21 : decode cX0_say 21 = .ok (.ireturn, 1) := by decide +kernel
theorem dX0_say_22 : decode cX0_say 22 = .ok (.aload_n 0, 1) := by decide +kernel
theorem dX0_say_23 : decode cX0_say 23 = .ok (.getfield 23, 3) := by decide +kernel
theorem dX0_say_26 : decode cX0_say 26 = .ok (.aload_n 0, 1) := by decide +kernel
theorem dX0_say_27 : decode cX0_say 27 = .ok (.getfield 45, 3) := by decide +kernel
theorem dX0_say_30 : decode cX0_say 30 = .ok (.iload_n 1, 1) := by decide +kernel
theorem dX0_say_31 : decode cX0_say 31 = .ok (.iastore, 1) := by decide +kernel
theorem dX0_say_32 : decode cX0_say 32 = .ok (.aload_n 0, 1) := by decide +kernel
theorem dX0_say_33 : decode cX0_say 33 = .ok (.dup, 1) := by decide +kernel
theorem dX0_say_34 : decode cX0_say 34 = .ok (.getfield 45, 3) := by decide +kernel
theorem dX0_say_37 : decode cX0_say 37 = .ok (.iconst 1, 1) := by decide +kernel
theorem dX0_say_38 : decode cX0_say 38 = .ok (.iadd, 1) := by decide +kernel
theorem dX0_say_39 : decode cX0_say 39 = .ok (.putfield 45, 3) := by decide +kernel
theorem dX0_say_42 : decode cX0_say 42 = .ok (.aload_n 0, 1) := by decide +kernel
theorem dX0_say_43 : decode cX0_say 43 = .ok (.getfield 45, 3) := by decide +kernel
theorem dX0_say_46 : decode cX0_say 46 = .ok (.ireturn, 1) := by decide +kernel
theorem dX0_hush_0 : decode cX0_hush 0 = .ok (.aload_n 0, 1) := by decide +kernel
theorem dX0_hush_1 : decode cX0_hush 1 = .ok (.getfield 45, 3) := by decide +kernel
theorem dX0_hush_4 : decode cX0_hush 4 = .ok (.istore_n 1, 1) := by decide +kernel
theorem dX0_hush_5 : decode cX0_hush 5 = .ok (.aload_n 0, 1) := by decide +kernel
theorem dX0_hush_6 : decode cX0_hush 6 = .ok (.iconst 0, 1) := by decide +kernel
theorem dX0_hush_7 : decode cX0_hush 7 = .ok (.putfield 45, 3) := by decide +kernel
theorem dX0_hush_10 : decode cX0_hush 10 = .ok (.iload_n 1, 1) := by decide +kernel
theorem dX0_hush_11 : decode cX0_hush 11 = .ok (.ireturn, 1) := by decide +kernel
set_option maxRecDepth 20000 in
theorem ggX0_heap_X0_isSet : GoodIn wsX0_heap wsX0_isSet := goodIn_r _ [5, 6, 7, 8, 4, 9, 10, 19, 20, 21, 22, 23, 24, 25, 26, 27, 28, 29, 30, 31] (by decide +kernel) (by decide +kernel)
set_option maxRecDepth 20000 in
theorem gX0_heap_X0_isSet : GoodIn wsX0_heap (wsV RX0 57 RX0 yX0_isSet wsX0_isSet) := goodIn_app (goodIn_of _ (by decide +kernel)) ggX0_heap_X0_isSet
set_option maxRecDepth 20000 in
theorem ggX0_heap_X0_isHeap : GoodIn wsX0_heap wsX0_isHeap := goodIn_r _ [14, 10, 15, 1, 2, 3, 4, 5, 6, 7, 8, 9, 16, 17, 18, 19, 20, 21, 22, 23, 24, 25, 26, 27, 28, 29, 30, 31] (by decide +kernel) (by decide +kernel)
set_option maxRecDepth 20000 in
theorem gX0_heap_X0_isHeap : GoodIn wsX0_heap (wsV RX0 60 RX0 yX0_isHeap wsX0_isHeap) := goodIn_app (goodIn_of _ (by decide +kernel)) ggX0_heap_X0_isHeap
theorem dX0_heap_0 : decode cX0_heap 0 = .ok (.aload_n 0, 1) := by decide +kernel
theorem dX0_heap_1 : decode cX0_heap 1 = .ok (.iload_n 1, 1) := by decide +kernel
theorem dX0_heap_2 : decode cX0_heap 2 = .ok (.invokevirtual 57, 3) := by decide +kernel
theorem dX0_heap_5 : decode cX0_heap 5 = .ok (.ifCond .ne 5, 3) := by decide +kernel
theorem dX0_heap_8 : decode cX0_heap 8 = .ok (.iconst (-1), 1) := by decide +kernel
theorem dX0_heap_9 : decode cX0_heap 9 = .ok (.ireturn, 1) := by decide +kernel
theorem dX0_heap_10 : decode cX0_heap 10 = .ok (.aload_n 0, 1) := by decide +kernel
theorem dX0_heap_11 : decode cX0_heap 11 = .ok (.iload_n 1, 1) := by decide +kernel
theorem dX0_heap_12 : decode cX0_heap 12 = .ok (.invokevirtual 60, 3) := by decide +kernel
theorem dX0_heap_15 : decode cX0_heap 15 = .ok (.ifCond .eq 7, 3) := by decide +kernel
theorem dX0_heap_18 : decode cX0_heap 18 = .ok (.iconst 1, 1) := by decide +kernel
theorem dX0_heap_19 : decode cX0_heap 19 = .ok (.goto 4, 3) := by decide +kernel
theorem dX0_heap_22 : decode cX0_heap 22 = .ok (.iconst 0, 1) := by decide +kernel
theorem dX0_heap_23 : decode cX0_heap 23 = .ok (.ireturn, 1) := by decide +kernel
set_option maxRecDepth 20000 in
theorem ggX0_many_X0_setCount : GoodIn wsX0_many wsX0_setCount := goodIn_r _ [5, 6, 19, 20, 21, 22, 23, 24, 25, 26, 27, 28, 29, 30, 31] (by decide +kernel) (by decide +kernel)
set_option maxRecDepth 20000 in
theorem gX0_many_X0_setCount : GoodIn wsX0_many (wsV RX0 63 RX0 yX0_setCount wsX0_setCount) := goodIn_app (goodIn_of _ (by decide +kernel)) ggX0_many_X0_setCount
set_option maxRecDepth 20000 in
theorem ggX0_many_X0_isHeap : GoodIn wsX0_many wsX0_isHeap := goodIn_r _ [10, 6, 11, 12, 13, 14, 4, 15, 1, 2, 3, 5, 16, 17, 18, 19, 20, 21, 22, 23, 24, 25, 26, 27, 28, 29, 30, 31] (by decide +kernel) (by decide +kernel)
set_option maxRecDepth 20000 in
theorem gX0_many_X0_isHeap : GoodIn wsX0_many (wsV RX0 60 RX0 yX0_isHeap wsX0_isHeap) := goodIn_app (goodIn_of _ (by decide +kernel)) ggX0_many_X0_isHeap
theorem dX0_many_0 : decode cX0_many 0 = .ok (.iconst 0, 1) := by decide +kernel
theorem dX0_many_1 : decode cX0_many 1 = .ok (.istore_n 1, 1) := by decide +kernel
theorem dX0_many_2 : decode cX0_many 2 = .ok (.iconst 0, 1) := by decide +kernel
theorem dX0_many_3 : decode cX0_many 3 = .ok (.istore_n 2, 1) := by decide +kernel
theorem dX0_many_4 : decode cX0_many 4 = .ok (.iload_n 2, 1) := by decide +kernel
theorem dX0_many_5 : decode cX0_many 5 = .ok (.aload_n 0, 1) := by decide +kernel
theorem dX0_many_6 : decode cX0_many 6 = .ok (.invokevirtual 63, 3) := by decide +kernel
theorem dX0_many_9 : decode cX0_many 9 = .ok (.if_icmp .ge 20, 3) := by decide +kernel
theorem dX0_many_12 : decode cX0_many 12 = .ok (.aload_n 0, 1) := by decide +kernel
theorem dX0_many_13 : decode cX0_many 13 = .ok (.iload_n 2, 1) := by decide +kernel
theorem dX0_many_14 : decode cX0_many 14 = .ok (.invokevirtual 60, 3) := by decide +kernel
theorem dX0_many_17 : decode cX0_many 17 = .ok (.ifCond .eq 6, 3) := by decide +kernel
theorem dX0_many_20 : decode cX0_many 20 = .ok (.iinc 1 1, 3) := by decide +kernel
theorem dX0_many_23 : decode cX0_many 23 = .ok (.iinc 2 1, 3) := by decide +kernel
theorem dX0_many_26 : decode cX0_many 26 = .ok (.goto (-22), 3) := by decide +kernel
theorem dX0_many_29 : decode cX0_many 29 = .ok (.iload_n 1, 1) := by decide +kernel
theorem dX0_many_30 : decode cX0_many 30 = .ok (.ireturn, 1) := by decide +kernel
set_option maxRecDepth 20000 in
theorem ggX0_flip_X0_isHeap : GoodIn wsX0_flip wsX0_isHeap := goodIn_r _ [5, 6, 7, 8, 9, 10, 4, 11, 12, 13, 14, 15, 16, 17, 18, 28, 29, 30, 31, 32, 33, 34, 35, 36, 37, 38, 39, 40] (by decide +kernel) (by decide +kernel)
set_option maxRecDepth 20000 in
theorem gX0_flip_X0_isHeap : GoodIn wsX0_flip (wsV RX0 60 RX0 yX0_isHeap wsX0_isHeap) := goodIn_app (goodIn_of _ (by decide +kernel)) ggX0_flip_X0_isHeap
set_option maxRecDepth 20000 in
theorem ggX0_flip_X0_isThing : GoodIn wsX0_flip wsX0_isThing := goodIn_r _ [22, 6, 28, 29, 30, 31, 32, 33, 34, 35, 36, 37, 38, 39, 40] (by decide +kernel) (by decide +kernel)
set_option maxRecDepth 20000 in
theorem gX0_flip_X0_isThing : GoodIn wsX0_flip (wsV RX0 48 RX0 yX0_isThing wsX0_isThing) := goodIn_app (goodIn_of _ (by decide +kernel)) ggX0_flip_X0_isThing
set_option maxRecDepth 20000 in
theorem ggX0_flip_X0_flipped : GoodIn wsX0_flip wsX0_flipped := goodIn_r _ [26, 27, 7, 16, 17, 4, 18, 28, 29, 30, 31, 32, 33, 34, 35, 36, 37, 38, 39, 40] (by decide +kernel) (by decide +kernel)
set_option maxRecDepth 20000 in
theorem gX0_flip_X0_flipped : GoodIn wsX0_flip (wsV RX0 67 RX0 yX0_flipped wsX0_flipped) := goodIn_app (goodIn_of _ (by decide +kernel)) ggX0_flip_X0_flipped
theorem dX0_flip_0 : decode cX0_flip 0 = .ok (.aload_n 0, 1) := by decide +kernel
theorem dX0_flip_1 : decode cX0_flip 1 = .ok (.iload_n 1, 1) := by decide +kernel
theorem dX0_flip_2 : decode cX0_flip 2 = .ok (.invokevirtual 60, 3) := by decide +kernel
theorem dX0_flip_5 : decode cX0_flip 5 = .ok (.ifCond .eq 11, 3) := by decide +kernel
theorem dX0_flip_8 : decode cX0_flip 8 = .ok (.aload_n 0, 1) := by decide +kernel
theorem dX0_flip_9 : decode cX0_flip 9 = .ok (.iload_n 2, 1) := by decide +kernel
theorem dX0_flip_10 : decode cX0_flip 10 = .ok (.invokevirtual 48, 3) := by decide +kernel
theorem dX0_flip_13 : decode cX0_flip 13 = .ok (.ifCond .ne 5, 3) := by decide +kernel
theorem dX0_flip_16 : decode cX0_flip 16 = .ok (.iconst (-1), 1) := by decide +kernel
theorem dX0_flip_17 : decode cX0_flip 17 = .ok (.ireturn, 1) := by decide +kernel
theorem dX0_flip_18 : decode cX0_flip 18 = .ok (.aload_n 0, 1) := by decide +kernel
theorem dX0_flip_19 : decode cX0_flip 19 = .ok (.iload_n 1, 1) := by decide +kernel
theorem dX0_flip_20 : decode cX0_flip 20 = .ok (.iload_n 2, 1) := by decide +kernel
theorem dX0_flip_21 : decode cX0_flip 21 = .ok (.invokevirtual 67, 3) := by decide +kernel
theorem dX0_flip_24 : decode cX0_flip 24 = .ok (.ireturn, 1) := by decide +kernel
set_option maxRecDepth 20000 in
theorem ggX0_turn_X0_isHeap : GoodIn wsX0_turn wsX0_isHeap := goodIn_r _ [5, 6, 7, 8, 9, 10, 4, 11, 12, 13, 14, 15, 16, 17, 18, 44, 45, 46, 47, 48, 49, 50, 51, 52, 53, 54, 55, 56] (by decide +kernel) (by decide +kernel)
set_option maxRecDepth 20000 in
theorem gX0_turn_X0_isHeap : GoodIn wsX0_turn (wsV RX0 60 RX0 yX0_isHeap wsX0_isHeap) := goodIn_app (goodIn_of _ (by decide +kernel)) ggX0_turn_X0_isHeap
set_option maxRecDepth 20000 in
theorem ggX0_turn_X0_isTurnKind : GoodIn wsX0_turn wsX0_isTurnKind := goodIn_r _ [21] (by decide +kernel) (by decide +kernel)
set_option maxRecDepth 20000 in
theorem gX0_turn_X0_isTurnKind : GoodIn wsX0_turn (va_wsS RX0 71 yX0_isTurnKind wsX0_isTurnKind) := goodIn_app (goodIn_of _ (by decide +kernel)) ggX0_turn_X0_isTurnKind
set_option maxRecDepth 20000 in
theorem ggX0_turn_X0_isTurnNumber : GoodIn wsX0_turn wsX0_isTurnNumber := goodIn_r _ [24] (by decide +kernel) (by decide +kernel)
set_option maxRecDepth 20000 in
theorem gX0_turn_X0_isTurnNumber : GoodIn wsX0_turn (va_wsS RX0 74 yX0_isTurnNumber wsX0_isTurnNumber) := goodIn_app (goodIn_of _ (by decide +kernel)) ggX0_turn_X0_isTurnNumber
set_option maxRecDepth 20000 in
theorem ggX0_turn_X0_turned : GoodIn wsX0_turn wsX0_turned := goodIn_r _ [28, 29, 30, 31, 4, 32, 6, 7, 16, 17, 18, 33, 34, 35, 36, 37, 38, 39, 40, 41, 42, 43, 44, 45, 46, 47, 48, 49, 50, 51, 52, 53, 54, 55, 56] (by decide +kernel) (by decide +kernel)
set_option maxRecDepth 20000 in
theorem gX0_turn_X0_turned : GoodIn wsX0_turn (wsV RX0 77 RX0 yX0_turned wsX0_turned) := goodIn_app (goodIn_of _ (by decide +kernel)) ggX0_turn_X0_turned
theorem dX0_turn_0 : decode cX0_turn 0 = .ok (.aload_n 0, 1) := by decide +kernel
theorem dX0_turn_1 : decode cX0_turn 1 = .ok (.iload_n 1, 1) := by decide +kernel
theorem dX0_turn_2 : decode cX0_turn 2 = .ok (.invokevirtual 60, 3) := by decide +kernel
theorem dX0_turn_5 : decode cX0_turn 5 = .ok (.ifCond .eq 17, 3) := by decide +kernel
theorem dX0_turn_8 : decode cX0_turn 8 = .ok (.iload_n 2, 1) := by decide +kernel
theorem dX0_turn_9 : decode cX0_turn 9 = .ok (.invokestatic 71, 3) := by decide +kernel
theorem dX0_turn_12 : decode cX0_turn 12 = .ok (.ifCond .eq 10, 3) := by decide +kernel
theorem dX0_turn_15 : decode cX0_turn 15 = .ok (.iload_n 3, 1) := by decide +kernel
theorem dX0_turn_16 : decode cX0_turn 16 = .ok (.invokestatic 74, 3) := by decide +kernel
theorem dX0_turn_19 : decode cX0_turn 19 = .ok (.ifCond .ne 5, 3) := by decide +kernel
theorem dX0_turn_22 : decode cX0_turn 22 = .ok (.iconst (-1), 1) := by decide +kernel
theorem dX0_turn_23 : decode cX0_turn 23 = .ok (.ireturn, 1) := by decide +kernel
theorem dX0_turn_24 : decode cX0_turn 24 = .ok (.iload_n 1, 1) := by decide +kernel
theorem dX0_turn_25 : decode cX0_turn 25 = .ok (.istore 4, 2) := by decide +kernel
theorem dX0_turn_27 : decode cX0_turn 27 = .ok (.iconst 0, 1) := by decide +kernel
theorem dX0_turn_28 : decode cX0_turn 28 = .ok (.istore 5, 2) := by decide +kernel
theorem dX0_turn_30 : decode cX0_turn 30 = .ok (.iload 5, 2) := by decide +kernel
theorem dX0_turn_32 : decode cX0_turn 32 = .ok (.iload_n 3, 1) := by decide +kernel
theorem dX0_turn_33 : decode cX0_turn 33 = .ok (.if_icmp .ge 18, 3) := by decide +kernel
theorem dX0_turn_36 : decode cX0_turn 36 = .ok (.aload_n 0, 1) := by decide +kernel
theorem dX0_turn_37 : decode cX0_turn 37 = .ok (.iload 4, 2) := by decide +kernel
theorem dX0_turn_39 : decode cX0_turn 39 = .ok (.iload_n 2, 1) := by decide +kernel
theorem dX0_turn_40 : decode cX0_turn 40 = .ok (.invokevirtual 77, 3) := by decide +kernel
theorem dX0_turn_43 : decode cX0_turn 43 = .ok (.istore 4, 2) := by decide +kernel
theorem dX0_turn_45 : decode cX0_turn 45 = .ok (.iinc 5 1, 3) := by decide +kernel
theorem dX0_turn_48 : decode cX0_turn 48 = .ok (.goto (-18), 3) := by decide +kernel
theorem dX0_turn_51 : decode cX0_turn 51 = .ok (.iload 4, 2) := by decide +kernel
theorem dX0_turn_53 : decode cX0_turn 53 = .ok (.ireturn, 1) := by decide +kernel
set_option maxRecDepth 20000 in
theorem ggX0_orbit_X0_isHeap : GoodIn wsX0_orbit wsX0_isHeap := goodIn_r _ [5, 6, 7, 8, 9, 10, 4, 11, 12, 13, 14, 15, 16, 17, 18, 46, 47, 48, 49, 50, 51, 52, 53, 54, 55, 56, 57, 58] (by decide +kernel) (by decide +kernel)
set_option maxRecDepth 20000 in
theorem gX0_orbit_X0_isHeap : GoodIn wsX0_orbit (wsV RX0 60 RX0 yX0_isHeap wsX0_isHeap) := goodIn_app (goodIn_of _ (by decide +kernel)) ggX0_orbit_X0_isHeap
set_option maxRecDepth 20000 in
theorem ggX0_orbit_X0_isTurnKind : GoodIn wsX0_orbit wsX0_isTurnKind := goodIn_r _ [21] (by decide +kernel) (by decide +kernel)
set_option maxRecDepth 20000 in
theorem gX0_orbit_X0_isTurnKind : GoodIn wsX0_orbit (va_wsS RX0 71 yX0_isTurnKind wsX0_isTurnKind) := goodIn_app (goodIn_of _ (by decide +kernel)) ggX0_orbit_X0_isTurnKind
set_option maxRecDepth 20000 in
theorem ggX0_orbit_X0_walkOrbit : GoodIn wsX0_orbit wsX0_walkOrbit := goodIn_r _ [25, 26, 27, 28, 29, 4, 30, 31, 32, 33, 34, 6, 7, 16, 17, 18, 35, 36, 37, 38, 39, 40, 41, 42, 43, 44, 45, 46, 47, 48, 49, 50, 51, 52, 53, 54, 55, 56, 57, 58] (by decide +kernel) (by decide +kernel)
set_option maxRecDepth 20000 in
theorem gX0_orbit_X0_walkOrbit : GoodIn wsX0_orbit (wsV RX0 80 RX0 yX0_walkOrbit wsX0_walkOrbit) := goodIn_app (goodIn_of _ (by decide +kernel)) ggX0_orbit_X0_walkOrbit
theorem dX0_orbit_0 : decode cX0_orbit 0 = .ok (.aload_n 0, 1) := by decide +kernel
theorem dX0_orbit_1 : decode cX0_orbit 1 = .ok (.iload_n 1, 1) := by decide +kernel
theorem dX0_orbit_2 : decode cX0_orbit 2 = .ok (.invokevirtual 60, 3) := by decide +kernel
theorem dX0_orbit_5 : decode cX0_orbit 5 = .ok (.ifCond .eq 10, 3) := by decide +kernel
theorem dX0_orbit_8 : decode cX0_orbit 8 = .ok (.iload_n 2, 1) := by decide +kernel
theorem dX0_orbit_9 : decode cX0_orbit 9 = .ok (.invokestatic 71, 3) := by decide +kernel
theorem dX0_orbit_12 : decode cX0_orbit 12 = .ok (.ifCond .ne 5, 3) := by decide +kernel
theorem dX0_orbit_15 : decode cX0_orbit 15 = .ok (.iconst (-1), 1) := by decide +kernel
theorem dX0_orbit_16 : decode cX0_orbit 16 = .ok (.ireturn, 1) := by decide +kernel
theorem dX0_orbit_17 : decode cX0_orbit 17 = .ok (.aload_n 0, 1) := by decide +kernel
theorem dX0_orbit_18 : decode cX0_orbit 18 = .ok (.iload_n 1, 1) := by decide +kernel
theorem dX0_orbit_19 : decode cX0_orbit 19 = .ok (.iload_n 2, 1) := by decide +kernel
theorem dX0_orbit_20 : decode cX0_orbit 20 = .ok (.invokevirtual 80, 3) := by decide +kernel
theorem dX0_orbit_23 : decode cX0_orbit 23 = .ok (.ireturn, 1) := by decide +kernel
set_option maxRecDepth 20000 in
theorem ggX0_orbits_X0_isTurnKind : GoodIn wsX0_orbits wsX0_isTurnKind := goodIn_r _ [4] (by decide +kernel) (by decide +kernel)
set_option maxRecDepth 20000 in
theorem gX0_orbits_X0_isTurnKind : GoodIn wsX0_orbits (va_wsS RX0 71 yX0_isTurnKind wsX0_isTurnKind) := goodIn_app (goodIn_of _ (by decide +kernel)) ggX0_orbits_X0_isTurnKind
set_option maxRecDepth 20000 in
theorem ggX0_orbits_X0_findOrbits : GoodIn wsX0_orbits wsX0_findOrbits := goodIn_r _ [8, 9, 10, 11, 12, 13, 14, 3, 15, 16, 17, 18, 19, 20, 21, 22, 23, 24, 25, 26, 27, 28, 29, 30, 31, 32, 33, 34, 35, 36, 37, 38, 39, 40, 41, 42, 43, 44, 45, 46, 47, 48, 49, 50, 51, 68, 69, 70, 71, 72, 73, 74, 75, 76, 77, 78, 79, 80] (by decide +kernel) (by decide +kernel)
set_option maxRecDepth 20000 in
theorem gX0_orbits_X0_findOrbits : GoodIn wsX0_orbits (wsV RX0 83 RX0 yX0_findOrbits wsX0_findOrbits) := goodIn_app (goodIn_of _ (by decide +kernel)) ggX0_orbits_X0_findOrbits
set_option maxRecDepth 20000 in
theorem ggX0_orbits_X0_orderOf : GoodIn wsX0_orbits wsX0_orderOf := goodIn_r _ [55, 11, 56, 57, 58, 3, 59, 60, 61, 62, 63, 68, 69, 70, 71, 72, 73, 74, 75, 76, 77, 78, 79, 80] (by decide +kernel) (by decide +kernel)
set_option maxRecDepth 20000 in
theorem gX0_orbits_X0_orderOf : GoodIn wsX0_orbits (wsV RX0 87 RX0 yX0_orderOf wsX0_orderOf) := goodIn_app (goodIn_of _ (by decide +kernel)) ggX0_orbits_X0_orderOf
set_option maxRecDepth 20000 in
theorem ggX0_orbits_X0_longestOf : GoodIn wsX0_orbits wsX0_longestOf := goodIn_r _ [67, 11, 60, 61, 62, 63, 68, 69, 70, 71, 72, 73, 74, 75, 76, 77, 78, 79, 80] (by decide +kernel) (by decide +kernel)
set_option maxRecDepth 20000 in
theorem gX0_orbits_X0_longestOf : GoodIn wsX0_orbits (wsV RX0 90 RX0 yX0_longestOf wsX0_longestOf) := goodIn_app (goodIn_of _ (by decide +kernel)) ggX0_orbits_X0_longestOf
theorem dX0_orbits_0 : decode cX0_orbits 0 = .ok (.iload_n 1, 1) := by decide +kernel
theorem dX0_orbits_1 : decode cX0_orbits 1 = .ok (.invokestatic 71, 3) := by decide +kernel
theorem dX0_orbits_4 : decode cX0_orbits 4 = .ok (.ifCond .eq 12, 3) := by decide +kernel
theorem dX0_orbits_7 : decode cX0_orbits 7 = .ok (.iload_n 2, 1) := by decide +kernel
theorem dX0_orbits_8 : decode cX0_orbits 8 = .ok (.ifCond .lt 8, 3) := by decide +kernel
theorem dX0_orbits_11 : decode cX0_orbits 11 = .ok (.iload_n 2, 1) := by decide +kernel
theorem dX0_orbits_12 : decode cX0_orbits 12 = .ok (.iconst 2, 1) := by decide +kernel
theorem dX0_orbits_13 : decode cX0_orbits 13 = .ok (.if_icmp .le 5, 3) := by decide +kernel
theorem dX0_orbits_16 : decode cX0_orbits 16 = .ok (.iconst (-1), 1) := by decide +kernel
theorem dX0_orbits_17 : decode cX0_orbits 17 = .ok (.ireturn, 1) := by decide +kernel
theorem dX0_orbits_18 : decode cX0_orbits 18 = .ok (.aload_n 0, 1) := by decide +kernel
theorem dX0_orbits_19 : decode cX0_orbits 19 = .ok (.iload_n 1, 1) := by decide +kernel
theorem dX0_orbits_20 : decode cX0_orbits 20 = .ok (.invokevirtual 83, 3) := by decide +kernel
theorem dX0_orbits_23 : decode cX0_orbits 23 = .ok (.istore_n 3, 1) := by decide +kernel
theorem dX0_orbits_24 : decode cX0_orbits 24 = .ok (.iload_n 2, 1) := by decide +kernel
theorem dX0_orbits_25 : decode cX0_orbits 25 = .ok (.ifCond .ne 5, 3) := by decide +kernel
theorem dX0_orbits_28 : decode cX0_orbits 28 = .ok (.iload_n 3, 1) := by decide +kernel
theorem dX0_orbits_29 : decode cX0_orbits 29 = .ok (.ireturn, 1) := by decide +kernel
theorem dX0_orbits_30 : decode cX0_orbits 30 = .ok (.iload_n 2, 1) := by decide +kernel
theorem dX0_orbits_31 : decode cX0_orbits 31 = .ok (.iconst 1, 1) := by decide +kernel
theorem dX0_orbits_32 : decode cX0_orbits 32 = .ok (.if_icmp .ne 11, 3) := by decide +kernel
theorem dX0_orbits_35 : decode cX0_orbits 35 = .ok (.aload_n 0, 1) := by decide +kernel
theorem dX0_orbits_36 : decode cX0_orbits 36 = .ok (.iload_n 3, 1) := by decide +kernel
theorem dX0_orbits_37 : decode cX0_orbits 37 = .ok (.invokevirtual 87, 3) := by decide +kernel
theorem dX0_orbits_40 : decode cX0_orbits 40 = .ok (.goto 8, 3) := by decide +kernel
theorem dX0_orbits_43 : decode cX0_orbits 43 = .ok (.aload_n 0, 1) := by decide +kernel
theorem dX0_orbits_44 : decode cX0_orbits 44 = .ok (.iload_n 3, 1) := by decide +kernel
theorem dX0_orbits_45 : decode cX0_orbits 45 = .ok (.invokevirtual 90, 3) := by decide +kernel
theorem dX0_orbits_48 : decode cX0_orbits 48 = .ok (.ireturn, 1) := by decide +kernel
set_option maxRecDepth 20000 in
theorem ggX0_measure_X0_isMeasureKind : GoodIn wsX0_measure wsX0_isMeasureKind := goodIn_r _ [6] (by decide +kernel) (by decide +kernel)
set_option maxRecDepth 20000 in
theorem gX0_measure_X0_isMeasureKind : GoodIn wsX0_measure (va_wsS RX0 93 yX0_isMeasureKind wsX0_isMeasureKind) := goodIn_app (goodIn_of _ (by decide +kernel)) ggX0_measure_X0_isMeasureKind
set_option maxRecDepth 20000 in
theorem ggX0_measure_X0_isHeap : GoodIn wsX0_measure wsX0_isHeap := goodIn_r _ [10, 11, 12, 13, 14, 15, 5, 16, 17, 18, 19, 20, 21, 22, 23, 48, 49, 50, 51, 52, 53, 54, 55, 56, 57, 58, 59, 60] (by decide +kernel) (by decide +kernel)
set_option maxRecDepth 20000 in
theorem gX0_measure_X0_isHeap : GoodIn wsX0_measure (wsV RX0 60 RX0 yX0_isHeap wsX0_isHeap) := goodIn_app (goodIn_of _ (by decide +kernel)) ggX0_measure_X0_isHeap
set_option maxRecDepth 20000 in
theorem ggX0_measure_X0_traceOf : GoodIn wsX0_measure wsX0_traceOf := goodIn_r _ [26] (by decide +kernel) (by decide +kernel)
set_option maxRecDepth 20000 in
theorem gX0_measure_X0_traceOf : GoodIn wsX0_measure (va_wsS RX0 100 yX0_traceOf wsX0_traceOf) := goodIn_app (goodIn_of _ (by decide +kernel)) ggX0_measure_X0_traceOf
set_option maxRecDepth 20000 in
theorem ggX0_measure_X0_measured : GoodIn wsX0_measure wsX0_measured := goodIn_r _ [30, 31, 32, 33, 5, 34, 11, 35, 36, 37, 38, 39, 40, 41, 42, 43, 44, 45, 46, 47, 21, 22, 23, 48, 49, 50, 51, 52, 53, 54, 55, 56, 57, 58, 59, 60] (by decide +kernel) (by decide +kernel)
set_option maxRecDepth 20000 in
theorem gX0_measure_X0_measured : GoodIn wsX0_measure (wsV RX0 103 RX0 yX0_measured wsX0_measured) := goodIn_app (goodIn_of _ (by decide +kernel)) ggX0_measure_X0_measured
theorem dX0_measure_0 : decode cX0_measure 0 = .ok (.iload_n 1, 1) := by decide +kernel
theorem dX0_measure_1 : decode cX0_measure 1 = .ok (.invokestatic 93, 3) := by decide +kernel
theorem dX0_measure_4 : decode cX0_measure 4 = .ok (.ifCond .eq 11, 3) := by decide +kernel
theorem dX0_measure_7 : decode cX0_measure 7 = .ok (.aload_n 0, 1) := by decide +kernel
theorem dX0_measure_8 : decode cX0_measure 8 = .ok (.iload_n 2, 1) := by decide +kernel
theorem dX0_measure_9 : decode cX0_measure 9 = .ok (.invokevirtual 60, 3) := by decide +kernel
theorem dX0_measure_12 : decode cX0_measure 12 = .ok (.ifCond .ne 6, 3) := by decide +kernel
theorem dX0_measure_15 : decode cX0_measure 15 = .ok (.ldc 56, 2) := by decide +kernel
theorem dX0_measure_17 : decode cX0_measure 17 = .ok (.ireturn, 1) := by decide +kernel
theorem dX0_measure_18 : decode cX0_measure 18 = .ok (.aload_n 0, 1) := by decide +kernel
theorem dX0_measure_19 : decode cX0_measure 19 = .ok (.dup, 1) := by decide +kernel
theorem dX0_measure_20 : decode cX0_measure 20 = .ok (.getfield 96, 3) := by decide +kernel
theorem dX0_measure_23 : decode cX0_measure 23 = .ok (.iload_n 1, 1) := by decide +kernel
theorem dX0_measure_24 : decode cX0_measure 24 = .ok (.invokestatic 100, 3) := by decide +kernel
theorem dX0_measure_27 : decode cX0_measure 27 = .ok (.i2l, 1) := by decide +kernel
theorem dX0_measure_28 : decode cX0_measure 28 = .ok (.ladd, 1) := by decide +kernel
theorem dX0_measure_29 : decode cX0_measure 29 = .ok (.putfield 96, 3) := by decide +kernel
theorem dX0_measure_32 : decode cX0_measure 32 = .ok (.aload_n 0, 1) := by decide +kernel
theorem dX0_measure_33 : decode cX0_measure 33 = .ok (.iload_n 1, 1) := by decide +kernel
theorem dX0_measure_34 : decode cX0_measure 34 = .ok (.iload_n 2, 1) := by decide +kernel
theorem dX0_measure_35 : decode cX0_measure 35 = .ok (.invokevirtual 103, 3) := by decide +kernel
theorem dX0_measure_38 : decode cX0_measure 38 = .ok (.ireturn, 1) := by decide +kernel
set_option maxRecDepth 20000 in
theorem ggX0_mean_X0_isHeap : GoodIn wsX0_mean wsX0_isHeap := goodIn_r _ [10, 11, 12, 13, 14, 15, 9, 16, 17, 18, 19, 20, 21, 22, 23, 84, 85, 86, 87, 88, 89, 90, 91, 92, 93, 94, 95, 96] (by decide +kernel) (by decide +kernel)
set_option maxRecDepth 20000 in
theorem gX0_mean_X0_isHeap : GoodIn wsX0_mean (wsV RX0 60 RX0 yX0_isHeap wsX0_isHeap) := goodIn_app (goodIn_of _ (by decide +kernel)) ggX0_mean_X0_isHeap
set_option maxRecDepth 20000 in
theorem ggX0_mean_X0_isTurnKind : GoodIn wsX0_mean wsX0_isTurnKind := goodIn_r _ [26] (by decide +kernel) (by decide +kernel)
set_option maxRecDepth 20000 in
theorem gX0_mean_X0_isTurnKind : GoodIn wsX0_mean (va_wsS RX0 71 yX0_isTurnKind wsX0_isTurnKind) := goodIn_app (goodIn_of _ (by decide +kernel)) ggX0_mean_X0_isTurnKind
set_option maxRecDepth 20000 in
theorem ggX0_mean_X0_isMeasureKind : GoodIn wsX0_mean wsX0_isMeasureKind := goodIn_r _ [29] (by decide +kernel) (by decide +kernel)
set_option maxRecDepth 20000 in
theorem gX0_mean_X0_isMeasureKind : GoodIn wsX0_mean (va_wsS RX0 93 yX0_isMeasureKind wsX0_isMeasureKind) := goodIn_app (goodIn_of _ (by decide +kernel)) ggX0_mean_X0_isMeasureKind
set_option maxRecDepth 20000 in
theorem ggX0_mean_X0_walkOrbit : GoodIn wsX0_mean wsX0_walkOrbit := goodIn_r _ [33, 34, 35, 36, 37, 9, 38, 39, 40, 41, 42, 11, 12, 21, 22, 23, 43, 44, 45, 46, 47, 48, 49, 50, 51, 52, 53, 84, 85, 86, 87, 88, 89, 90, 91, 92, 93, 94, 95, 96] (by decide +kernel) (by decide +kernel)
set_option maxRecDepth 20000 in
theorem gX0_mean_X0_walkOrbit : GoodIn wsX0_mean (wsV RX0 80 RX0 yX0_walkOrbit wsX0_walkOrbit) := goodIn_app (goodIn_of _ (by decide +kernel)) ggX0_mean_X0_walkOrbit
set_option maxRecDepth 20000 in
theorem ggX0_mean_X0_sumOfOrbit : GoodIn wsX0_mean wsX0_sumOfOrbit := goodIn_r _ [57, 58, 59, 60, 9, 61, 62, 63, 64, 65, 11, 53, 66, 67, 68, 69, 70, 71, 72, 73, 74, 75, 76, 77, 21, 22, 23, 35, 36, 37, 38, 39, 40, 41, 42, 12, 43, 44, 45, 46, 47, 48, 49, 50, 51, 52, 84, 85, 86, 87, 88, 89, 90, 91, 92, 93, 94, 95, 96] (by decide +kernel) (by decide +kernel)
set_option maxRecDepth 20000 in
theorem gX0_mean_X0_sumOfOrbit : GoodIn wsX0_mean (wsV RX0 106 RX0 yX0_sumOfOrbit wsX0_sumOfOrbit) := goodIn_app (goodIn_of _ (by decide +kernel)) ggX0_mean_X0_sumOfOrbit
set_option maxRecDepth 20000 in
theorem ggX0_mean_X0_commonDivisor : GoodIn wsX0_mean wsX0_commonDivisor := goodIn_r _ [80, 81, 82, 4, 83] (by decide +kernel) (by decide +kernel)
set_option maxRecDepth 20000 in
theorem gX0_mean_X0_commonDivisor : GoodIn wsX0_mean (va_wsS RX0 115 yX0_commonDivisor wsX0_commonDivisor) := goodIn_app (goodIn_of _ (by decide +kernel)) ggX0_mean_X0_commonDivisor
theorem dX0_mean_0 : decode cX0_mean 0 = .ok (.aload_n 0, 1) := by decide +kernel
theorem dX0_mean_1 : decode cX0_mean 1 = .ok (.iload_n 1, 1) := by decide +kernel
theorem dX0_mean_2 : decode cX0_mean 2 = .ok (.invokevirtual 60, 3) := by decide +kernel
theorem dX0_mean_5 : decode cX0_mean 5 = .ok (.ifCond .eq 28, 3) := by decide +kernel
theorem dX0_mean_8 : decode cX0_mean 8 = .ok (.iload_n 2, 1) := by decide +kernel
theorem dX0_mean_9 : decode cX0_mean 9 = .ok (.invokestatic 71, 3) := by decide +kernel
theorem dX0_mean_12 : decode cX0_mean 12 = .ok (.ifCond .eq 21, 3) := by decide +kernel
theorem dX0_mean_15 : decode cX0_mean 15 = .ok (.iload_n 3, 1) := by decide +kernel
theorem dX0_mean_16 : decode cX0_mean 16 = .ok (.invokestatic 93, 3) := by decide +kernel
theorem dX0_mean_19 : decode cX0_mean 19 = .ok (.ifCond .eq 14, 3) := by decide +kernel
theorem dX0_mean_22 : decode cX0_mean 22 = .ok (.iload 4, 2) := by decide +kernel
theorem dX0_mean_24 : decode cX0_mean 24 = .ok (.ifCond .lt 9, 3) := by decide +kernel
theorem dX0_mean_27 : decode cX0_mean 27 = .ok (.iload 4, 2) := by decide +kernel
theorem dX0_mean_29 : decode cX0_mean 29 = .ok (.iconst 1, 1) := by decide +kernel
theorem dX0_mean_30 : decode cX0_mean 30 = .ok (.if_icmp .le 6, 3) := by decide +kernel
theorem dX0_mean_33 : decode cX0_mean 33 = .ok (.ldc 56, 2) := by decide +kernel
theorem dX0_mean_35 : decode cX0_mean 35 = .ok (.ireturn, 1) := by decide +kernel
theorem dX0_mean_36 : decode cX0_mean 36 = .ok (.aload_n 0, 1) := by decide +kernel
theorem dX0_mean_37 : decode cX0_mean 37 = .ok (.iload_n 1, 1) := by decide +kernel
theorem dX0_mean_38 : decode cX0_mean 38 = .ok (.iload_n 2, 1) := by decide +kernel
theorem dX0_mean_39 : decode cX0_mean 39 = .ok (.invokevirtual 80, 3) := by decide +kernel
theorem dX0_mean_42 : decode cX0_mean 42 = .ok (.istore 5, 2) := by decide +kernel
theorem dX0_mean_44 : decode cX0_mean 44 = .ok (.aload_n 0, 1) := by decide +kernel
theorem dX0_mean_45 : decode cX0_mean 45 = .ok (.iload_n 1, 1) := by decide +kernel
theorem dX0_mean_46 : decode cX0_mean 46 = .ok (.iload 5, 2) := by decide +kernel
theorem dX0_mean_48 : decode cX0_mean 48 = .ok (.iload_n 2, 1) := by decide +kernel
theorem dX0_mean_49 : decode cX0_mean 49 = .ok (.iload_n 3, 1) := by decide +kernel
theorem dX0_mean_50 : decode cX0_mean 50 = .ok (.invokevirtual 106, 3) := by decide +kernel
theorem dX0_mean_53 : decode cX0_mean 53 = .ok (.istore 6, 2) := by decide +kernel
theorem dX0_mean_55 : decode cX0_mean 55 = .ok (.iload 6, 2) := by decide +kernel
theorem dX0_mean_57 : decode cX0_mean 57 = .ok (.invokestatic 110, 3) := by decide +kernel
theorem dX0_mean_60 : decode cX0_mean 60 = .ok (.iload 5, 2) := by decide +kernel
theorem dX0_mean_62 : decode cX0_mean 62 = .ok (.invokestatic 115, 3) := by decide +kernel
theorem dX0_mean_65 : decode cX0_mean 65 = .ok (.istore 7, 2) := by decide +kernel
theorem dX0_mean_67 : decode cX0_mean 67 = .ok (.iload 4, 2) := by decide +kernel
theorem dX0_mean_69 : decode cX0_mean 69 = .ok (.ifCond .ne 11, 3) := by decide +kernel
theorem dX0_mean_72 : decode cX0_mean 72 = .ok (.iload 6, 2) := by decide +kernel
theorem dX0_mean_74 : decode cX0_mean 74 = .ok (.iload 7, 2) := by decide +kernel
theorem dX0_mean_76 : decode cX0_mean 76 = .ok (.idiv, 1) := by decide +kernel
theorem dX0_mean_77 : decode cX0_mean 77 = .ok (.goto 8, 3) := by decide +kernel
theorem dX0_mean_80 : decode cX0_mean 80 = .ok (.iload 5, 2) := by decide +kernel
theorem dX0_mean_82 : decode cX0_mean 82 = .ok (.iload 7, 2) := by decide +kernel
theorem dX0_mean_84 : decode cX0_mean 84 = .ok (.idiv, 1) := by decide +kernel
theorem dX0_mean_85 : decode cX0_mean 85 = .ok (.ireturn, 1) := by decide +kernel
set_option maxRecDepth 20000 in
theorem ggX0_even_X0_isTurnKind : GoodIn wsX0_even wsX0_isTurnKind := goodIn_r _ [6] (by decide +kernel) (by decide +kernel)
set_option maxRecDepth 20000 in
theorem gX0_even_X0_isTurnKind : GoodIn wsX0_even (va_wsS RX0 71 yX0_isTurnKind wsX0_isTurnKind) := goodIn_app (goodIn_of _ (by decide +kernel)) ggX0_even_X0_isTurnKind
set_option maxRecDepth 20000 in
theorem ggX0_even_X0_isMeasureKind : GoodIn wsX0_even wsX0_isMeasureKind := goodIn_r _ [9] (by decide +kernel) (by decide +kernel)
set_option maxRecDepth 20000 in
theorem gX0_even_X0_isMeasureKind : GoodIn wsX0_even (va_wsS RX0 93 yX0_isMeasureKind wsX0_isMeasureKind) := goodIn_app (goodIn_of _ (by decide +kernel)) ggX0_even_X0_isMeasureKind
set_option maxRecDepth 20000 in
theorem ggX0_even_X0_findOrbits : GoodIn wsX0_even wsX0_findOrbits := goodIn_r _ [13, 14, 2, 1, 15, 16, 17, 5, 18, 19, 20, 21, 22, 23, 24, 25, 26, 27, 28, 29, 30, 31, 32, 33, 34, 35, 36, 37, 38, 39, 40, 41, 42, 43, 44, 45, 46, 47, 48, 49, 50, 51, 52, 53, 54, 79, 80, 81, 82, 83, 84, 85, 86, 87, 88, 89, 90, 91] (by decide +kernel) (by decide +kernel)
set_option maxRecDepth 20000 in
theorem gX0_even_X0_findOrbits : GoodIn wsX0_even (wsV RX0 83 RX0 yX0_findOrbits wsX0_findOrbits) := goodIn_app (goodIn_of _ (by decide +kernel)) ggX0_even_X0_findOrbits
set_option maxRecDepth 20000 in
theorem ggX0_even_X0_sumOfOrbit : GoodIn wsX0_even wsX0_sumOfOrbit := goodIn_r _ [58, 59, 60, 61, 5, 62, 63, 64, 65, 66, 19, 54, 67, 68, 69, 70, 71, 72, 73, 74, 75, 76, 77, 78, 29, 30, 31, 36, 37, 38, 39, 40, 41, 42, 43, 24, 44, 45, 46, 47, 48, 49, 50, 51, 52, 53, 79, 80, 81, 82, 83, 84, 85, 86, 87, 88, 89, 90, 91] (by decide +kernel) (by decide +kernel)
set_option maxRecDepth 20000 in
theorem gX0_even_X0_sumOfOrbit : GoodIn wsX0_even (wsV RX0 106 RX0 yX0_sumOfOrbit wsX0_sumOfOrbit) := goodIn_app (goodIn_of _ (by decide +kernel)) ggX0_even_X0_sumOfOrbit
theorem dX0_even_0 : decode cX0_even 0 = .ok (.iload_n 1, 1) := by decide +kernel
theorem dX0_even_1 : decode cX0_even 1 = .ok (.invokestatic 71, 3) := by decide +kernel
theorem dX0_even_4 : decode cX0_even 4 = .ok (.ifCond .eq 10, 3) := by decide +kernel
theorem dX0_even_7 : decode cX0_even 7 = .ok (.iload_n 2, 1) := by decide +kernel
theorem dX0_even_8 : decode cX0_even 8 = .ok (.invokestatic 93, 3) := by decide +kernel
theorem dX0_even_11 : decode cX0_even 11 = .ok (.ifCond .ne 5, 3) := by decide +kernel
theorem dX0_even_14 : decode cX0_even 14 = .ok (.iconst (-1), 1) := by decide +kernel
theorem dX0_even_15 : decode cX0_even 15 = .ok (.ireturn, 1) := by decide +kernel
theorem dX0_even_16 : decode cX0_even 16 = .ok (.aload_n 0, 1) := by decide +kernel
theorem dX0_even_17 : decode cX0_even 17 = .ok (.iload_n 1, 1) := by decide +kernel
theorem dX0_even_18 : decode cX0_even 18 = .ok (.invokevirtual 83, 3) := by decide +kernel
theorem dX0_even_21 : decode cX0_even 21 = .ok (.istore_n 3, 1) := by decide +kernel
theorem dX0_even_22 : decode cX0_even 22 = .ok (.aload_n 0, 1) := by decide +kernel
theorem dX0_even_23 : decode cX0_even 23 = .ok (.getfield 38, 3) := by decide +kernel
theorem dX0_even_26 : decode cX0_even 26 = .ok (.iconst 0, 1) := by decide +kernel
theorem dX0_even_27 : decode cX0_even 27 = .ok (.iaload, 1) := by decide +kernel
theorem dX0_even_28 : decode cX0_even 28 = .ok (.istore 4, 2) := by decide +kernel
theorem dX0_even_30 : decode cX0_even 30 = .ok (.aload_n 0, 1) := by decide +kernel
theorem dX0_even_31 : decode cX0_even 31 = .ok (.aload_n 0, 1) := by decide +kernel
theorem dX0_even_32 : decode cX0_even 32 = .ok (.getfield 35, 3) := by decide +kernel
theorem dX0_even_35 : decode cX0_even 35 = .ok (.iconst 0, 1) := by decide +kernel
theorem dX0_even_36 : decode cX0_even 36 = .ok (.iaload, 1) := by decide +kernel
theorem dX0_even_37 : decode cX0_even 37 = .ok (.iload 4, 2) := by decide +kernel
theorem dX0_even_39 : decode cX0_even 39 = .ok (.iload_n 1, 1) := by decide +kernel
theorem dX0_even_40 : decode cX0_even 40 = .ok (.iload_n 2, 1) := by decide +kernel
theorem dX0_even_41 : decode cX0_even 41 = .ok (.invokevirtual 106, 3) := by decide +kernel
theorem dX0_even_44 : decode cX0_even 44 = .ok (.istore 5, 2) := by decide +kernel
theorem dX0_even_46 : decode cX0_even 46 = .ok (.iconst 1, 1) := by decide +kernel
theorem dX0_even_47 : decode cX0_even 47 = .ok (.istore 6, 2) := by decide +kernel
theorem dX0_even_49 : decode cX0_even 49 = .ok (.iload 6, 2) := by decide +kernel
theorem dX0_even_51 : decode cX0_even 51 = .ok (.iload_n 3, 1) := by decide +kernel
theorem dX0_even_52 : decode cX0_even 52 = .ok (.if_icmp .ge 51, 3) := by decide +kernel
theorem dX0_even_55 : decode cX0_even 55 = .ok (.aload_n 0, 1) := by decide +kernel
theorem dX0_even_56 : decode cX0_even 56 = .ok (.aload_n 0, 1) := by decide +kernel
theorem dX0_even_57 : decode cX0_even 57 = .ok (.getfield 35, 3) := by decide +kernel
theorem dX0_even_60 : decode cX0_even 60 = .ok (.iload 6, 2) := by decide +kernel
theorem dX0_even_62 : decode cX0_even 62 = .ok (.iaload, 1) := by decide +kernel
theorem dX0_even_63 : decode cX0_even 63 = .ok (.aload_n 0, 1) := by decide +kernel
theorem dX0_even_64 : decode cX0_even 64 = .ok (.getfield 38, 3) := by decide +kernel
theorem dX0_even_67 : decode cX0_even 67 = .ok (.iload 6, 2) := by decide +kernel
theorem dX0_even_69 : decode cX0_even 69 = .ok (.iaload, 1) := by decide +kernel
theorem dX0_even_70 : decode cX0_even 70 = .ok (.iload_n 1, 1) := by decide +kernel
theorem dX0_even_71 : decode cX0_even 71 = .ok (.iload_n 2, 1) := by decide +kernel
theorem dX0_even_72 : decode cX0_even 72 = .ok (.invokevirtual 106, 3) := by decide +kernel
theorem dX0_even_75 : decode cX0_even 75 = .ok (.istore 7, 2) := by decide +kernel
theorem dX0_even_77 : decode cX0_even 77 = .ok (.iload 7, 2) := by decide +kernel
theorem dX0_even_79 : decode cX0_even 79 = .ok (.iload 4, 2) := by decide +kernel
theorem dX0_even_81 : decode cX0_even 81 = .ok (.imul, 1) := by decide +kernel
theorem dX0_even_82 : decode cX0_even 82 = .ok (.iload 5, 2) := by decide +kernel
theorem dX0_even_84 : decode cX0_even 84 = .ok (.aload_n 0, 1) := by decide +kernel
theorem dX0_even_85 : decode cX0_even 85 = .ok (.getfield 38, 3) := by decide +kernel
theorem dX0_even_88 : decode cX0_even 88 = .ok (.iload 6, 2) := by decide +kernel
theorem dX0_even_90 : decode cX0_even 90 = .ok (.iaload, 1) := by decide +kernel
theorem dX0_even_91 : decode cX0_even 91 = .ok (.imul, 1) := by decide +kernel
theorem dX0_even_92 : decode cX0_even 92 = .ok (.if_icmp .eq 5, 3) := by decide +kernel
theorem dX0_even_95 : decode cX0_even 95 = .ok (.iconst 0, 1) := by decide +kernel
theorem dX0_even_96 : decode cX0_even 96 = .ok (.ireturn, 1) := by decide +kernel
theorem dX0_even_97 : decode cX0_even 97 = .ok (.iinc 6 1, 3) := by decide +kernel
theorem dX0_even_100 : decode cX0_even 100 = .ok (.goto (-51), 3) := by decide +kernel
theorem dX0_even_103 : decode cX0_even 103 = .ok (.iconst 1, 1) := by decide +kernel
theorem dX0_even_104 : decode cX0_even 104 = .ok (.ireturn, 1) := by decide +kernel
set_option maxRecDepth 20000 in
theorem ggX0_fillings_X0_isHeight : GoodIn wsX0_fillings wsX0_isHeight := goodIn_r _ [5] (by decide +kernel) (by decide +kernel)
set_option maxRecDepth 20000 in
theorem gX0_fillings_X0_isHeight : GoodIn wsX0_fillings (va_wsS RX0 118 yX0_isHeight wsX0_isHeight) := goodIn_app (goodIn_of _ (by decide +kernel)) ggX0_fillings_X0_isHeight
set_option maxRecDepth 20000 in
theorem ggX0_fillings_X0_setCount : GoodIn wsX0_fillings wsX0_setCount := goodIn_r _ [9, 10, 27, 28, 29, 30, 31, 32, 33, 34, 35, 36, 37, 38, 39] (by decide +kernel) (by decide +kernel)
set_option maxRecDepth 20000 in
theorem gX0_fillings_X0_setCount : GoodIn wsX0_fillings (wsV RX0 63 RX0 yX0_setCount wsX0_setCount) := goodIn_app (goodIn_of _ (by decide +kernel)) ggX0_fillings_X0_setCount
set_option maxRecDepth 20000 in
theorem ggX0_fillings_X0_isHeap : GoodIn wsX0_fillings wsX0_isHeap := goodIn_r _ [14, 10, 15, 16, 17, 18, 4, 19, 6, 7, 8, 9, 20, 21, 22, 27, 28, 29, 30, 31, 32, 33, 34, 35, 36, 37, 38, 39] (by decide +kernel) (by decide +kernel)
set_option maxRecDepth 20000 in
theorem gX0_fillings_X0_isHeap : GoodIn wsX0_fillings (wsV RX0 60 RX0 yX0_isHeap wsX0_isHeap) := goodIn_app (goodIn_of _ (by decide +kernel)) ggX0_fillings_X0_isHeap
set_option maxRecDepth 20000 in
theorem ggX0_fillings_X0_extendRows : GoodIn wsX0_fillings wsX0_extendRows := goodIn_r _ [26, 10, 1, 6, 7, 8, 4, 9, 20, 21, 22, 11, 12, 13, 14, 15, 16, 17, 18, 19, 27, 28, 29, 30, 31, 32, 33, 34, 35, 36, 37, 38, 39] (by decide +kernel) (by decide +kernel)
set_option maxRecDepth 20000 in
theorem gX0_fillings_X0_extendRows : GoodIn wsX0_fillings (wsV RX0 121 RX0 yX0_extendRows wsX0_extendRows) := goodIn_app (goodIn_of _ (by decide +kernel)) ggX0_fillings_X0_extendRows
theorem dX0_fillings_0 : decode cX0_fillings 0 = .ok (.iload_n 1, 1) := by decide +kernel
theorem dX0_fillings_1 : decode cX0_fillings 1 = .ok (.invokestatic 118, 3) := by decide +kernel
theorem dX0_fillings_4 : decode cX0_fillings 4 = .ok (.ifCond .ne 5, 3) := by decide +kernel
theorem dX0_fillings_7 : decode cX0_fillings 7 = .ok (.iconst (-1), 1) := by decide +kernel
theorem dX0_fillings_8 : decode cX0_fillings 8 = .ok (.ireturn, 1) := by decide +kernel
theorem dX0_fillings_9 : decode cX0_fillings 9 = .ok (.iconst 0, 1) := by decide +kernel
theorem dX0_fillings_10 : decode cX0_fillings 10 = .ok (.istore_n 2, 1) := by decide +kernel
theorem dX0_fillings_11 : decode cX0_fillings 11 = .ok (.iload_n 2, 1) := by decide +kernel
theorem dX0_fillings_12 : decode cX0_fillings 12 = .ok (.aload_n 0, 1) := by decide +kernel
theorem dX0_fillings_13 : decode cX0_fillings 13 = .ok (.invokevirtual 63, 3) := by decide +kernel
theorem dX0_fillings_16 : decode cX0_fillings 16 = .ok (.if_icmp .ge 28, 3) := by decide +kernel
theorem dX0_fillings_19 : decode cX0_fillings 19 = .ok (.aload_n 0, 1) := by decide +kernel
theorem dX0_fillings_20 : decode cX0_fillings 20 = .ok (.getfield 32, 3) := by decide +kernel
theorem dX0_fillings_23 : decode cX0_fillings 23 = .ok (.iload_n 2, 1) := by decide +kernel
theorem dX0_fillings_24 : decode cX0_fillings 24 = .ok (.aload_n 0, 1) := by decide +kernel
theorem dX0_fillings_25 : decode cX0_fillings 25 = .ok (.iload_n 2, 1) := by decide +kernel
theorem dX0_fillings_26 : decode cX0_fillings 26 = .ok (.invokevirtual 60, 3) := by decide +kernel
theorem dX0_fillings_29 : decode cX0_fillings 29 = .ok (.ifCond .eq 7, 3) := by decide +kernel
theorem dX0_fillings_32 : decode cX0_fillings 32 = .ok (.iconst 1, 1) := by decide +kernel
theorem dX0_fillings_33 : decode cX0_fillings 33 = .ok (.goto 4, 3) := by decide +kernel
theorem dX0_fillings_36 : decode cX0_fillings 36 = .ok (.iconst 0, 1) := by decide +kernel
theorem dX0_fillings_37 : decode cX0_fillings 37 = .ok (.iastore, 1) := by decide +kernel
theorem dX0_fillings_38 : decode cX0_fillings 38 = .ok (.iinc 2 1, 3) := by decide +kernel
theorem dX0_fillings_41 : decode cX0_fillings 41 = .ok (.goto (-30), 3) := by decide +kernel
theorem dX0_fillings_44 : decode cX0_fillings 44 = .ok (.iconst 2, 1) := by decide +kernel
theorem dX0_fillings_45 : decode cX0_fillings 45 = .ok (.istore_n 2, 1) := by decide +kernel
theorem dX0_fillings_46 : decode cX0_fillings 46 = .ok (.iload_n 2, 1) := by decide +kernel
theorem dX0_fillings_47 : decode cX0_fillings 47 = .ok (.iload_n 1, 1) := by decide +kernel
theorem dX0_fillings_48 : decode cX0_fillings 48 = .ok (.if_icmp .gt 13, 3) := by decide +kernel
theorem dX0_fillings_51 : decode cX0_fillings 51 = .ok (.aload_n 0, 1) := by decide +kernel
theorem dX0_fillings_52 : decode cX0_fillings 52 = .ok (.invokevirtual 121, 3) := by decide +kernel
theorem dX0_fillings_55 : decode cX0_fillings 55 = .ok (.iinc 2 1, 3) := by decide +kernel
theorem dX0_fillings_58 : decode cX0_fillings 58 = .ok (.goto (-12), 3) := by decide +kernel
theorem dX0_fillings_61 : decode cX0_fillings 61 = .ok (.iconst 0, 1) := by decide +kernel
theorem dX0_fillings_62 : decode cX0_fillings 62 = .ok (.istore_n 2, 1) := by decide +kernel
theorem dX0_fillings_63 : decode cX0_fillings 63 = .ok (.iconst 0, 1) := by decide +kernel
theorem dX0_fillings_64 : decode cX0_fillings 64 = .ok (.istore_n 3, 1) := by decide +kernel
theorem dX0_fillings_65 : decode cX0_fillings 65 = .ok (.iload_n 3, 1) := by decide +kernel
theorem dX0_fillings_66 : decode cX0_fillings 66 = .ok (.aload_n 0, 1) := by decide +kernel
theorem dX0_fillings_67 : decode cX0_fillings 67 = .ok (.invokevirtual 63, 3) := by decide +kernel
theorem dX0_fillings_70 : decode cX0_fillings 70 = .ok (.if_icmp .ge 18, 3) := by decide +kernel
theorem dX0_fillings_73 : decode cX0_fillings 73 = .ok (.iload_n 2, 1) := by decide +kernel
theorem dX0_fillings_74 : decode cX0_fillings 74 = .ok (.aload_n 0, 1) := by decide +kernel
theorem dX0_fillings_75 : decode cX0_fillings 75 = .ok (.getfield 32, 3) := by decide +kernel
theorem dX0_fillings_78 : decode cX0_fillings 78 = .ok (.iload_n 3, 1) := by decide +kernel
theorem dX0_fillings_79 : decode cX0_fillings 79 = .ok (.iaload, 1) := by decide +kernel
theorem dX0_fillings_80 : decode cX0_fillings 80 = .ok (.iadd, 1) := by decide +kernel
theorem dX0_fillings_81 : decode cX0_fillings 81 = .ok (.istore_n 2, 1) := by decide +kernel
theorem dX0_fillings_82 : decode cX0_fillings 82 = .ok (.iinc 3 1, 3) := by decide +kernel
theorem dX0_fillings_85 : decode cX0_fillings 85 = .ok (.goto (-20), 3) := by decide +kernel
theorem dX0_fillings_88 : decode cX0_fillings 88 = .ok (.iload_n 2, 1) := by decide +kernel
theorem dX0_fillings_89 : decode cX0_fillings 89 = .ok (.ireturn, 1) := by decide +kernel
set_option maxRecDepth 20000 in
theorem ggX0_bend_X0_isThing : GoodIn wsX0_bend wsX0_isThing := goodIn_r _ [5, 6, 39, 40, 41, 42, 43, 44, 45, 46, 47, 48, 49, 50, 51] (by decide +kernel) (by decide +kernel)
set_option maxRecDepth 20000 in
theorem gX0_bend_X0_isThing : GoodIn wsX0_bend (wsV RX0 48 RX0 yX0_isThing wsX0_isThing) := goodIn_app (goodIn_of _ (by decide +kernel)) ggX0_bend_X0_isThing
set_option maxRecDepth 20000 in
theorem ggX0_bend_X0_readFilling : GoodIn wsX0_bend wsX0_readFilling := goodIn_r _ [10, 6, 11, 12, 13, 4, 14, 15, 16, 17, 18, 19, 20, 21, 22, 39, 40, 41, 42, 43, 44, 45, 46, 47, 48, 49, 50, 51] (by decide +kernel) (by decide +kernel)
set_option maxRecDepth 20000 in
theorem gX0_bend_X0_readFilling : GoodIn wsX0_bend (wsV RX0 124 RX0 yX0_readFilling wsX0_readFilling) := goodIn_app (goodIn_of _ (by decide +kernel)) ggX0_bend_X0_readFilling
set_option maxRecDepth 20000 in
theorem ggX0_bend_X0_flipDigit : GoodIn wsX0_bend wsX0_flipDigit := goodIn_r _ [26, 6, 19, 11, 27, 28, 29, 30, 31, 32, 33, 34, 20, 21, 4, 22, 39, 40, 41, 42, 43, 44, 45, 46, 47, 48, 49, 50, 51] (by decide +kernel) (by decide +kernel)
set_option maxRecDepth 20000 in
theorem gX0_bend_X0_flipDigit : GoodIn wsX0_bend (wsV RX0 127 RX0 yX0_flipDigit wsX0_flipDigit) := goodIn_app (goodIn_of _ (by decide +kernel)) ggX0_bend_X0_flipDigit
set_option maxRecDepth 20000 in
theorem ggX0_bend_X0_numberOfDigits : GoodIn wsX0_bend wsX0_numberOfDigits := goodIn_r _ [38, 6, 11, 39, 40, 41, 42, 43, 44, 45, 46, 47, 48, 49, 50, 51] (by decide +kernel) (by decide +kernel)
set_option maxRecDepth 20000 in
theorem gX0_bend_X0_numberOfDigits : GoodIn wsX0_bend (wsV RX0 131 RX0 yX0_numberOfDigits wsX0_numberOfDigits) := goodIn_app (goodIn_of _ (by decide +kernel)) ggX0_bend_X0_numberOfDigits
theorem dX0_bend_0 : decode cX0_bend 0 = .ok (.aload_n 0, 1) := by decide +kernel
theorem dX0_bend_1 : decode cX0_bend 1 = .ok (.iload_n 3, 1) := by decide +kernel
theorem dX0_bend_2 : decode cX0_bend 2 = .ok (.invokevirtual 48, 3) := by decide +kernel
theorem dX0_bend_5 : decode cX0_bend 5 = .ok (.ifCond .eq 12, 3) := by decide +kernel
theorem dX0_bend_8 : decode cX0_bend 8 = .ok (.aload_n 0, 1) := by decide +kernel
theorem dX0_bend_9 : decode cX0_bend 9 = .ok (.iload_n 1, 1) := by decide +kernel
theorem dX0_bend_10 : decode cX0_bend 10 = .ok (.iload_n 2, 1) := by decide +kernel
theorem dX0_bend_11 : decode cX0_bend 11 = .ok (.invokevirtual 124, 3) := by decide +kernel
theorem dX0_bend_14 : decode cX0_bend 14 = .ok (.ifCond .ne 5, 3) := by decide +kernel
theorem dX0_bend_17 : decode cX0_bend 17 = .ok (.iconst (-1), 1) := by decide +kernel
theorem dX0_bend_18 : decode cX0_bend 18 = .ok (.ireturn, 1) := by decide +kernel
theorem dX0_bend_19 : decode cX0_bend 19 = .ok (.aload_n 0, 1) := by decide +kernel
theorem dX0_bend_20 : decode cX0_bend 20 = .ok (.iload_n 1, 1) := by decide +kernel
theorem dX0_bend_21 : decode cX0_bend 21 = .ok (.iload_n 3, 1) := by decide +kernel
theorem dX0_bend_22 : decode cX0_bend 22 = .ok (.invokevirtual 127, 3) := by decide +kernel
theorem dX0_bend_25 : decode cX0_bend 25 = .ok (.aload_n 0, 1) := by decide +kernel
theorem dX0_bend_26 : decode cX0_bend 26 = .ok (.iload_n 1, 1) := by decide +kernel
theorem dX0_bend_27 : decode cX0_bend 27 = .ok (.invokevirtual 131, 3) := by decide +kernel
theorem dX0_bend_30 : decode cX0_bend 30 = .ok (.ireturn, 1) := by decide +kernel
set_option maxRecDepth 20000 in
theorem ggX0_round_X0_isTurnKind : GoodIn wsX0_round wsX0_isTurnKind := goodIn_r _ [4] (by decide +kernel) (by decide +kernel)
set_option maxRecDepth 20000 in
theorem gX0_round_X0_isTurnKind : GoodIn wsX0_round (va_wsS RX0 71 yX0_isTurnKind wsX0_isTurnKind) := goodIn_app (goodIn_of _ (by decide +kernel)) ggX0_round_X0_isTurnKind
set_option maxRecDepth 20000 in
theorem ggX0_round_X0_readFilling : GoodIn wsX0_round wsX0_readFilling := goodIn_r _ [8, 9, 10, 11, 12, 3, 13, 14, 15, 16, 17, 18, 19, 20, 21, 44, 45, 46, 47, 48, 49, 50, 51, 52, 53, 54, 55, 56] (by decide +kernel) (by decide +kernel)
set_option maxRecDepth 20000 in
theorem gX0_round_X0_readFilling : GoodIn wsX0_round (wsV RX0 124 RX0 yX0_readFilling wsX0_readFilling) := goodIn_app (goodIn_of _ (by decide +kernel)) ggX0_round_X0_readFilling
set_option maxRecDepth 20000 in
theorem ggX0_round_X0_turnDigits : GoodIn wsX0_round wsX0_turnDigits := goodIn_r _ [25, 9, 26, 27, 28, 29, 30, 3, 31, 18, 10, 32, 33, 34, 35, 36, 37, 38, 39, 19, 20, 21, 44, 45, 46, 47, 48, 49, 50, 51, 52, 53, 54, 55, 56] (by decide +kernel) (by decide +kernel)
set_option maxRecDepth 20000 in
theorem gX0_round_X0_turnDigits : GoodIn wsX0_round (wsV RX0 134 RX0 yX0_turnDigits wsX0_turnDigits) := goodIn_app (goodIn_of _ (by decide +kernel)) ggX0_round_X0_turnDigits
set_option maxRecDepth 20000 in
theorem ggX0_round_X0_numberOfDigits : GoodIn wsX0_round wsX0_numberOfDigits := goodIn_r _ [43, 9, 10, 44, 45, 46, 47, 48, 49, 50, 51, 52, 53, 54, 55, 56] (by decide +kernel) (by decide +kernel)
set_option maxRecDepth 20000 in
theorem gX0_round_X0_numberOfDigits : GoodIn wsX0_round (wsV RX0 131 RX0 yX0_numberOfDigits wsX0_numberOfDigits) := goodIn_app (goodIn_of _ (by decide +kernel)) ggX0_round_X0_numberOfDigits
theorem dX0_round_0 : decode cX0_round 0 = .ok (.iload_n 3, 1) := by decide +kernel
theorem dX0_round_1 : decode cX0_round 1 = .ok (.invokestatic 71, 3) := by decide +kernel
theorem dX0_round_4 : decode cX0_round 4 = .ok (.ifCond .eq 12, 3) := by decide +kernel
theorem dX0_round_7 : decode cX0_round 7 = .ok (.aload_n 0, 1) := by decide +kernel
theorem dX0_round_8 : decode cX0_round 8 = .ok (.iload_n 1, 1) := by decide +kernel
theorem dX0_round_9 : decode cX0_round 9 = .ok (.iload_n 2, 1) := by decide +kernel
theorem dX0_round_10 : decode cX0_round 10 = .ok (.invokevirtual 124, 3) := by decide +kernel
theorem dX0_round_13 : decode cX0_round 13 = .ok (.ifCond .ne 5, 3) := by decide +kernel
theorem dX0_round_16 : decode cX0_round 16 = .ok (.iconst (-1), 1) := by decide +kernel
theorem dX0_round_17 : decode cX0_round 17 = .ok (.ireturn, 1) := by decide +kernel
theorem dX0_round_18 : decode cX0_round 18 = .ok (.aload_n 0, 1) := by decide +kernel
theorem dX0_round_19 : decode cX0_round 19 = .ok (.iload_n 1, 1) := by decide +kernel
theorem dX0_round_20 : decode cX0_round 20 = .ok (.iload_n 3, 1) := by decide +kernel
theorem dX0_round_21 : decode cX0_round 21 = .ok (.invokevirtual 134, 3) := by decide +kernel
theorem dX0_round_24 : decode cX0_round 24 = .ok (.aload_n 0, 1) := by decide +kernel
theorem dX0_round_25 : decode cX0_round 25 = .ok (.iload_n 1, 1) := by decide +kernel
theorem dX0_round_26 : decode cX0_round 26 = .ok (.invokevirtual 131, 3) := by decide +kernel
theorem dX0_round_29 : decode cX0_round 29 = .ok (.ireturn, 1) := by decide +kernel
set_option maxRecDepth 20000 in
theorem ggX0_period_X0_isTurnKind : GoodIn wsX0_period wsX0_isTurnKind := goodIn_r _ [4] (by decide +kernel) (by decide +kernel)
set_option maxRecDepth 20000 in
theorem gX0_period_X0_isTurnKind : GoodIn wsX0_period (va_wsS RX0 71 yX0_isTurnKind wsX0_isTurnKind) := goodIn_app (goodIn_of _ (by decide +kernel)) ggX0_period_X0_isTurnKind
set_option maxRecDepth 20000 in
theorem ggX0_period_X0_readFilling : GoodIn wsX0_period wsX0_readFilling := goodIn_r _ [8, 9, 10, 11, 12, 3, 13, 14, 15, 16, 17, 18, 19, 20, 21, 44, 45, 46, 47, 48, 49, 50, 51, 52, 53, 54, 55, 56] (by decide +kernel) (by decide +kernel)
set_option maxRecDepth 20000 in
theorem gX0_period_X0_readFilling : GoodIn wsX0_period (wsV RX0 124 RX0 yX0_readFilling wsX0_readFilling) := goodIn_app (goodIn_of _ (by decide +kernel)) ggX0_period_X0_readFilling
set_option maxRecDepth 20000 in
theorem ggX0_period_X0_turnDigits : GoodIn wsX0_period wsX0_turnDigits := goodIn_r _ [25, 9, 26, 27, 28, 29, 30, 3, 31, 18, 10, 32, 33, 34, 35, 36, 37, 38, 39, 19, 20, 21, 44, 45, 46, 47, 48, 49, 50, 51, 52, 53, 54, 55, 56] (by decide +kernel) (by decide +kernel)
set_option maxRecDepth 20000 in
theorem gX0_period_X0_turnDigits : GoodIn wsX0_period (wsV RX0 134 RX0 yX0_turnDigits wsX0_turnDigits) := goodIn_app (goodIn_of _ (by decide +kernel)) ggX0_period_X0_turnDigits
set_option maxRecDepth 20000 in
theorem ggX0_period_X0_numberOfDigits : GoodIn wsX0_period wsX0_numberOfDigits := goodIn_r _ [43, 9, 10, 44, 45, 46, 47, 48, 49, 50, 51, 52, 53, 54, 55, 56] (by decide +kernel) (by decide +kernel)
set_option maxRecDepth 20000 in
theorem gX0_period_X0_numberOfDigits : GoodIn wsX0_period (wsV RX0 131 RX0 yX0_numberOfDigits wsX0_numberOfDigits) := goodIn_app (goodIn_of _ (by decide +kernel)) ggX0_period_X0_numberOfDigits
theorem dX0_period_0 : decode cX0_period 0 = .ok (.iload_n 3, 1) := by decide +kernel
theorem dX0_period_1 : decode cX0_period 1 = .ok (.invokestatic 71, 3) := by decide +kernel
theorem dX0_period_4 : decode cX0_period 4 = .ok (.ifCond .eq 12, 3) := by decide +kernel
theorem dX0_period_7 : decode cX0_period 7 = .ok (.aload_n 0, 1) := by decide +kernel
theorem dX0_period_8 : decode cX0_period 8 = .ok (.iload_n 1, 1) := by decide +kernel
theorem dX0_period_9 : decode cX0_period 9 = .ok (.iload_n 2, 1) := by decide +kernel
theorem dX0_period_10 : decode cX0_period 10 = .ok (.invokevirtual 124, 3) := by decide +kernel
theorem dX0_period_13 : decode cX0_period 13 = .ok (.ifCond .ne 5, 3) := by decide +kernel
theorem dX0_period_16 : decode cX0_period 16 = .ok (.iconst (-1), 1) := by decide +kernel
theorem dX0_period_17 : decode cX0_period 17 = .ok (.ireturn, 1) := by decide +kernel
theorem dX0_period_18 : decode cX0_period 18 = .ok (.iconst 1, 1) := by decide +kernel
theorem dX0_period_19 : decode cX0_period 19 = .ok (.istore 4, 2) := by decide +kernel
theorem dX0_period_21 : decode cX0_period 21 = .ok (.iload 4, 2) := by decide +kernel
theorem dX0_period_23 : decode cX0_period 23 = .ok (.sipush 1000, 3) := by decide +kernel
theorem dX0_period_26 : decode cX0_period 26 = .ok (.if_icmp .gt 27, 3) := by decide +kernel
theorem dX0_period_29 : decode cX0_period 29 = .ok (.aload_n 0, 1) := by decide +kernel
theorem dX0_period_30 : decode cX0_period 30 = .ok (.iload_n 1, 1) := by decide +kernel
theorem dX0_period_31 : decode cX0_period 31 = .ok (.iload_n 3, 1) := by decide +kernel
theorem dX0_period_32 : decode cX0_period 32 = .ok (.invokevirtual 134, 3) := by decide +kernel
theorem dX0_period_35 : decode cX0_period 35 = .ok (.aload_n 0, 1) := by decide +kernel
theorem dX0_period_36 : decode cX0_period 36 = .ok (.iload_n 1, 1) := by decide +kernel
theorem dX0_period_37 : decode cX0_period 37 = .ok (.invokevirtual 131, 3) := by decide +kernel
theorem dX0_period_40 : decode cX0_period 40 = .ok (.iload_n 2, 1) := by decide +kernel
theorem dX0_period_41 : decode cX0_period 41 = .ok (.if_icmp .ne 6, 3) := by decide +kernel
theorem dX0_period_44 : decode cX0_period 44 = .ok (.iload 4, 2) := by decide +kernel
theorem dX0_period_46 : decode cX0_period 46 = .ok (.ireturn, 1) := by decide +kernel
theorem dX0_period_47 : decode cX0_period 47 = .ok (.iinc 4 1, 3) := by decide +kernel
theorem dX0_period_50 : decode cX0_period 50 = .ok (.goto (-29), 3) := by decide +kernel
theorem dX0_period_53 : decode cX0_period 53 = .ok (.bipush (-9), 2) := by decide +kernel
theorem dX0_period_55 : decode cX0_period 55 = .ok (.ireturn, 1) := by decide +kernel
set_option maxRecDepth 20000 in
theorem ggX0_counts_X0_countSizes : GoodIn wsX0_counts wsX0_countSizes := goodIn_r _ [7, 1, 2, 8, 9, 10, 6, 11, 12, 13, 14, 15, 16, 17, 18, 19, 20, 21, 22, 23, 24, 25, 26, 27, 28, 29, 30, 31, 32, 33, 34, 35, 36, 37, 38, 39, 40, 41, 42, 43] (by decide +kernel) (by decide +kernel)
set_option maxRecDepth 20000 in
theorem gX0_counts_X0_countSizes : GoodIn wsX0_counts (wsV RX0 137 RX0 yX0_countSizes wsX0_countSizes) := goodIn_app (goodIn_of _ (by decide +kernel)) ggX0_counts_X0_countSizes
theorem dX0_counts_0 : decode cX0_counts 0 = .ok (.iload_n 1, 1) := by decide +kernel
theorem dX0_counts_1 : decode cX0_counts 1 = .ok (.ifCond .lt 11, 3) := by decide +kernel
theorem dX0_counts_4 : decode cX0_counts 4 = .ok (.iload_n 1, 1) := by decide +kernel
theorem dX0_counts_5 : decode cX0_counts 5 = .ok (.aload_n 0, 1) := by decide +kernel
theorem dX0_counts_6 : decode cX0_counts 6 = .ok (.getfield 9, 3) := by decide +kernel
theorem dX0_counts_9 : decode cX0_counts 9 = .ok (.if_icmp .le 5, 3) := by decide +kernel
theorem dX0_counts_12 : decode cX0_counts 12 = .ok (.iconst (-1), 1) := by decide +kernel
theorem dX0_counts_13 : decode cX0_counts 13 = .ok (.ireturn, 1) := by decide +kernel
theorem dX0_counts_14 : decode cX0_counts 14 = .ok (.aload_n 0, 1) := by decide +kernel
theorem dX0_counts_15 : decode cX0_counts 15 = .ok (.invokevirtual 137, 3) := by decide +kernel
theorem dX0_counts_18 : decode cX0_counts 18 = .ok (.aload_n 0, 1) := by decide +kernel
theorem dX0_counts_19 : decode cX0_counts 19 = .ok (.getfield 29, 3) := by decide +kernel
theorem dX0_counts_22 : decode cX0_counts 22 = .ok (.iload_n 1, 1) := by decide +kernel
theorem dX0_counts_23 : decode cX0_counts 23 = .ok (.iaload, 1) := by decide +kernel
theorem dX0_counts_24 : decode cX0_counts 24 = .ok (.ireturn, 1) := by decide +kernel
set_option maxRecDepth 20000 in
theorem ggX0_at_X0_sumAtRoot : GoodIn wsX0_at wsX0_sumAtRoot := goodIn_r _ [6, 7, 8, 9, 10, 11, 12, 5, 13, 14, 15, 16, 17, 18, 19, 20, 21, 22, 23, 24, 25, 26, 27, 28, 29, 30, 31, 32, 33, 34, 35, 36, 37, 38, 39, 40, 41, 42, 43, 44, 45, 46, 47, 48, 49] (by decide +kernel) (by decide +kernel)
set_option maxRecDepth 20000 in
theorem gX0_at_X0_sumAtRoot : GoodIn wsX0_at (wsV RX0 140 RX0 yX0_sumAtRoot wsX0_sumAtRoot) := goodIn_app (goodIn_of _ (by decide +kernel)) ggX0_at_X0_sumAtRoot
theorem dX0_at_0 : decode cX0_at 0 = .ok (.iload_n 1, 1) := by decide +kernel
theorem dX0_at_1 : decode cX0_at 1 = .ok (.tableswitch 75 1 6 #[39, 46, 54, 61, 75, 68], 39) := by decide +kernel
theorem dX0_at_40 : decode cX0_at 40 = .ok (.aload_n 0, 1) := by decide +kernel
theorem dX0_at_41 : decode cX0_at 41 = .ok (.iload_n 1, 1) := by decide +kernel
theorem dX0_at_42 : decode cX0_at 42 = .ok (.iconst 2, 1) := by decide +kernel
theorem dX0_at_43 : decode cX0_at 43 = .ok (.invokevirtual 140, 3) := by decide +kernel
theorem dX0_at_46 : decode cX0_at 46 = .ok (.ireturn, 1) := by decide +kernel
theorem dX0_at_47 : decode cX0_at 47 = .ok (.aload_n 0, 1) := by decide +kernel
theorem dX0_at_48 : decode cX0_at 48 = .ok (.iload_n 1, 1) := by decide +kernel
theorem dX0_at_49 : decode cX0_at 49 = .ok (.bipush (-2), 2) := by decide +kernel
theorem dX0_at_51 : decode cX0_at 51 = .ok (.invokevirtual 140, 3) := by decide +kernel
theorem dX0_at_54 : decode cX0_at 54 = .ok (.ireturn, 1) := by decide +kernel
theorem dX0_at_55 : decode cX0_at 55 = .ok (.aload_n 0, 1) := by decide +kernel
theorem dX0_at_56 : decode cX0_at 56 = .ok (.iload_n 1, 1) := by decide +kernel
theorem dX0_at_57 : decode cX0_at 57 = .ok (.iconst (-1), 1) := by decide +kernel
theorem dX0_at_58 : decode cX0_at 58 = .ok (.invokevirtual 140, 3) := by decide +kernel
theorem dX0_at_61 : decode cX0_at 61 = .ok (.ireturn, 1) := by decide +kernel
theorem dX0_at_62 : decode cX0_at 62 = .ok (.aload_n 0, 1) := by decide +kernel
theorem dX0_at_63 : decode cX0_at 63 = .ok (.iload_n 1, 1) := by decide +kernel
theorem dX0_at_64 : decode cX0_at 64 = .ok (.iconst 0, 1) := by decide +kernel
theorem dX0_at_65 : decode cX0_at 65 = .ok (.invokevirtual 140, 3) := by decide +kernel
theorem dX0_at_68 : decode cX0_at 68 = .ok (.ireturn, 1) := by decide +kernel
theorem dX0_at_69 : decode cX0_at 69 = .ok (.aload_n 0, 1) := by decide +kernel
theorem dX0_at_70 : decode cX0_at 70 = .ok (.iload_n 1, 1) := by decide +kernel
theorem dX0_at_71 : decode cX0_at 71 = .ok (.iconst 1, 1) := by decide +kernel
theorem dX0_at_72 : decode cX0_at 72 = .ok (.invokevirtual 140, 3) := by decide +kernel
theorem dX0_at_75 : decode cX0_at 75 = .ok (.ireturn, 1) := by decide +kernel
theorem dX0_at_76 : decode cX0_at 76 = .ok (.ldc 143, 2) := by decide +kernel
theorem dX0_at_78 : decode cX0_at 78 = .ok (.ireturn, 1) := by decide +kernel
set_option maxRecDepth 20000 in
theorem ggX0_stays_X0_isTurnKind : GoodIn wsX0_stays wsX0_isTurnKind := goodIn_r _ [5] (by decide +kernel) (by decide +kernel)
set_option maxRecDepth 20000 in
theorem gX0_stays_X0_isTurnKind : GoodIn wsX0_stays (va_wsS RX0 71 yX0_isTurnKind wsX0_isTurnKind) := goodIn_app (goodIn_of _ (by decide +kernel)) ggX0_stays_X0_isTurnKind
set_option maxRecDepth 20000 in
theorem ggX0_stays_X0_isTurnNumber : GoodIn wsX0_stays wsX0_isTurnNumber := goodIn_r _ [8] (by decide +kernel) (by decide +kernel)
set_option maxRecDepth 20000 in
theorem gX0_stays_X0_isTurnNumber : GoodIn wsX0_stays (va_wsS RX0 74 yX0_isTurnNumber wsX0_isTurnNumber) := goodIn_app (goodIn_of _ (by decide +kernel)) ggX0_stays_X0_isTurnNumber
set_option maxRecDepth 20000 in
theorem ggX0_stays_X0_findOrbits : GoodIn wsX0_stays wsX0_findOrbits := goodIn_r _ [12, 13, 14, 1, 15, 16, 17, 4, 18, 19, 20, 21, 22, 23, 24, 25, 26, 27, 28, 29, 30, 31, 32, 33, 34, 35, 36, 37, 38, 39, 40, 41, 42, 43, 44, 45, 46, 47, 48, 49, 50, 51, 52, 53, 54, 55, 56, 57, 58, 59, 60, 61, 62, 63, 64, 65, 66, 67] (by decide +kernel) (by decide +kernel)
set_option maxRecDepth 20000 in
theorem gX0_stays_X0_findOrbits : GoodIn wsX0_stays (wsV RX0 83 RX0 yX0_findOrbits wsX0_findOrbits) := goodIn_app (goodIn_of _ (by decide +kernel)) ggX0_stays_X0_findOrbits
theorem dX0_stays_0 : decode cX0_stays 0 = .ok (.iload_n 1, 1) := by decide +kernel
theorem dX0_stays_1 : decode cX0_stays 1 = .ok (.invokestatic 71, 3) := by decide +kernel
theorem dX0_stays_4 : decode cX0_stays 4 = .ok (.ifCond .eq 10, 3) := by decide +kernel
theorem dX0_stays_7 : decode cX0_stays 7 = .ok (.iload_n 2, 1) := by decide +kernel
theorem dX0_stays_8 : decode cX0_stays 8 = .ok (.invokestatic 74, 3) := by decide +kernel
theorem dX0_stays_11 : decode cX0_stays 11 = .ok (.ifCond .ne 5, 3) := by decide +kernel
theorem dX0_stays_14 : decode cX0_stays 14 = .ok (.iconst (-1), 1) := by decide +kernel
theorem dX0_stays_15 : decode cX0_stays 15 = .ok (.ireturn, 1) := by decide +kernel
theorem dX0_stays_16 : decode cX0_stays 16 = .ok (.aload_n 0, 1) := by decide +kernel
theorem dX0_stays_17 : decode cX0_stays 17 = .ok (.iload_n 1, 1) := by decide +kernel
theorem dX0_stays_18 : decode cX0_stays 18 = .ok (.invokevirtual 83, 3) := by decide +kernel
theorem dX0_stays_21 : decode cX0_stays 21 = .ok (.istore_n 3, 1) := by decide +kernel
theorem dX0_stays_22 : decode cX0_stays 22 = .ok (.iconst 0, 1) := by decide +kernel
theorem dX0_stays_23 : decode cX0_stays 23 = .ok (.istore 4, 2) := by decide +kernel
theorem dX0_stays_25 : decode cX0_stays 25 = .ok (.iconst 0, 1) := by decide +kernel
theorem dX0_stays_26 : decode cX0_stays 26 = .ok (.istore 5, 2) := by decide +kernel
theorem dX0_stays_28 : decode cX0_stays 28 = .ok (.iload 5, 2) := by decide +kernel
theorem dX0_stays_30 : decode cX0_stays 30 = .ok (.iload_n 3, 1) := by decide +kernel
theorem dX0_stays_31 : decode cX0_stays 31 = .ok (.if_icmp .ge 37, 3) := by decide +kernel
theorem dX0_stays_34 : decode cX0_stays 34 = .ok (.aload_n 0, 1) := by decide +kernel
theorem dX0_stays_35 : decode cX0_stays 35 = .ok (.getfield 38, 3) := by decide +kernel
theorem dX0_stays_38 : decode cX0_stays 38 = .ok (.iload 5, 2) := by decide +kernel
theorem dX0_stays_40 : decode cX0_stays 40 = .ok (.iaload, 1) := by decide +kernel
theorem dX0_stays_41 : decode cX0_stays 41 = .ok (.istore 6, 2) := by decide +kernel
theorem dX0_stays_43 : decode cX0_stays 43 = .ok (.iload 6, 2) := by decide +kernel
theorem dX0_stays_45 : decode cX0_stays 45 = .ok (.ifCond .le 17, 3) := by decide +kernel
theorem dX0_stays_48 : decode cX0_stays 48 = .ok (.iload_n 2, 1) := by decide +kernel
theorem dX0_stays_49 : decode cX0_stays 49 = .ok (.iload 6, 2) := by decide +kernel
theorem dX0_stays_51 : decode cX0_stays 51 = .ok (.irem, 1) := by decide +kernel
theorem dX0_stays_52 : decode cX0_stays 52 = .ok (.ifCond .ne 10, 3) := by decide +kernel
theorem dX0_stays_55 : decode cX0_stays 55 = .ok (.iload 4, 2) := by decide +kernel
theorem dX0_stays_57 : decode cX0_stays 57 = .ok (.iload 6, 2) := by decide +kernel
theorem dX0_stays_59 : decode cX0_stays 59 = .ok (.iadd, 1) := by decide +kernel
theorem dX0_stays_60 : decode cX0_stays 60 = .ok (.istore 4, 2) := by decide +kernel
theorem dX0_stays_62 : decode cX0_stays 62 = .ok (.iinc 5 1, 3) := by decide +kernel
theorem dX0_stays_65 : decode cX0_stays 65 = .ok (.goto (-37), 3) := by decide +kernel
theorem dX0_stays_68 : decode cX0_stays 68 = .ok (.iload 4, 2) := by decide +kernel
theorem dX0_stays_70 : decode cX0_stays 70 = .ok (.ireturn, 1) := by decide +kernel
set_option maxRecDepth 20000 in
theorem ggX0_count_X0_pairCount : GoodIn wsX0_count wsX0_pairCount := goodIn_r _ [7, 1, 8, 9, 10, 11, 12, 13, 14, 15, 16, 17, 18, 19, 20, 21, 22, 23, 24, 25, 26, 27, 28] (by decide +kernel) (by decide +kernel)
set_option maxRecDepth 20000 in
theorem gX0_count_X0_pairCount : GoodIn wsX0_count (wsV RX0 144 RX0 yX0_pairCount wsX0_pairCount) := goodIn_app (goodIn_of _ (by decide +kernel)) ggX0_count_X0_pairCount
theorem dX0_count_0 : decode cX0_count 0 = .ok (.iload_n 1, 1) := by decide +kernel
theorem dX0_count_1 : decode cX0_count 1 = .ok (.tableswitch 42 0 2 #[27, 32, 37], 27) := by decide +kernel
theorem dX0_count_28 : decode cX0_count 28 = .ok (.aload_n 0, 1) := by decide +kernel
theorem dX0_count_29 : decode cX0_count 29 = .ok (.getfield 9, 3) := by decide +kernel
theorem dX0_count_32 : decode cX0_count 32 = .ok (.ireturn, 1) := by decide +kernel
theorem dX0_count_33 : decode cX0_count 33 = .ok (.aload_n 0, 1) := by decide +kernel
theorem dX0_count_34 : decode cX0_count 34 = .ok (.getfield 45, 3) := by decide +kernel
theorem dX0_count_37 : decode cX0_count 37 = .ok (.ireturn, 1) := by decide +kernel
theorem dX0_count_38 : decode cX0_count 38 = .ok (.aload_n 0, 1) := by decide +kernel
theorem dX0_count_39 : decode cX0_count 39 = .ok (.invokevirtual 144, 3) := by decide +kernel
theorem dX0_count_42 : decode cX0_count 42 = .ok (.ireturn, 1) := by decide +kernel
theorem dX0_count_43 : decode cX0_count 43 = .ok (.iconst (-1), 1) := by decide +kernel
theorem dX0_count_44 : decode cX0_count 44 = .ok (.ireturn, 1) := by decide +kernel
theorem dX0_trace_0 : decode cX0_trace 0 = .ok (.aload_n 0, 1) := by decide +kernel
theorem dX0_trace_1 : decode cX0_trace 1 = .ok (.getfield 96, 3) := by decide +kernel
theorem dX0_trace_4 : decode cX0_trace 4 = .ok (.lreturn, 1) := by decide +kernel
theorem dX0_isThing_0 : decode cX0_isThing 0 = .ok (.iload_n 1, 1) := by decide +kernel
theorem dX0_isThing_1 : decode cX0_isThing 1 = .ok (.ifCond .lt 15, 3) := by decide +kernel
theorem dX0_isThing_4 : decode cX0_isThing 4 = .ok (.iload_n 1, 1) := by decide +kernel
theorem dX0_isThing_5 : decode cX0_isThing 5 = .ok (.aload_n 0, 1) := by decide +kernel
theorem dX0_isThing_6 : decode cX0_isThing 6 = .ok (.getfield 9, 3) := by decide +kernel
theorem dX0_isThing_9 : decode cX0_isThing 9 = .ok (.if_icmp .ge 7, 3) := by decide +kernel
theorem dX0_isThing_12 : decode cX0_isThing 12 = .ok (.iconst 1, 1) := by decide +kernel
theorem dX0_isThing_13 : decode cX0_isThing 13 = .ok (.goto 4, 3) := by decide +kernel
theorem dX0_isThing_16 : decode cX0_isThing 16 = .ok (.iconst 0, 1) := by decide +kernel
theorem dX0_isThing_17 : decode cX0_isThing 17 = .ok (.ireturn, 1) := by decide +kernel
set_option maxRecDepth 20000 in
theorem ggX0_isSet_X0_setCount : GoodIn wsX0_isSet wsX0_setCount := goodIn_r _ [5, 6, 7, 8, 9, 10, 11, 12, 13, 14, 15, 16, 17, 18, 19] (by decide +kernel) (by decide +kernel)
set_option maxRecDepth 20000 in
theorem gX0_isSet_X0_setCount : GoodIn wsX0_isSet (wsV RX0 63 RX0 yX0_setCount wsX0_setCount) := goodIn_app (goodIn_of _ (by decide +kernel)) ggX0_isSet_X0_setCount
theorem dX0_isSet_0 : decode cX0_isSet 0 = .ok (.iload_n 1, 1) := by decide +kernel
theorem dX0_isSet_1 : decode cX0_isSet 1 = .ok (.ifCond .lt 15, 3) := by decide +kernel
theorem dX0_isSet_4 : decode cX0_isSet 4 = .ok (.iload_n 1, 1) := by decide +kernel
theorem dX0_isSet_5 : decode cX0_isSet 5 = .ok (.aload_n 0, 1) := by decide +kernel
theorem dX0_isSet_6 : decode cX0_isSet 6 = .ok (.invokevirtual 63, 3) := by decide +kernel
theorem dX0_isSet_9 : decode cX0_isSet 9 = .ok (.if_icmp .ge 7, 3) := by decide +kernel
theorem dX0_isSet_12 : decode cX0_isSet 12 = .ok (.iconst 1, 1) := by decide +kernel
theorem dX0_isSet_13 : decode cX0_isSet 13 = .ok (.goto 4, 3) := by decide +kernel
theorem dX0_isSet_16 : decode cX0_isSet 16 = .ok (.iconst 0, 1) := by decide +kernel
theorem dX0_isSet_17 : decode cX0_isSet 17 = .ok (.ireturn, 1) := by decide +kernel
theorem dX0_isTurnKind_0 : decode cX0_isTurnKind 0 = .ok (.iload_n 0, 1) := by decide +kernel
theorem dX0_isTurnKind_1 : decode cX0_isTurnKind 1 = .ok (.ifCond .eq 8, 3) := by decide +kernel
theorem dX0_isTurnKind_4 : decode cX0_isTurnKind 4 = .ok (.iload_n 0, 1) := by decide +kernel
theorem dX0_isTurnKind_5 : decode cX0_isTurnKind 5 = .ok (.iconst 1, 1) := by decide +kernel
theorem dX0_isTurnKind_6 : decode cX0_isTurnKind 6 = .ok (.if_icmp .ne 7, 3) := by decide +kernel
theorem dX0_isTurnKind_9 : decode cX0_isTurnKind 9 = .ok (.iconst 1, 1) := by decide +kernel
theorem dX0_isTurnKind_10 : decode cX0_isTurnKind 10 = .ok (.goto 4, 3) := by decide +kernel
theorem dX0_isTurnKind_13 : decode cX0_isTurnKind 13 = .ok (.iconst 0, 1) := by decide +kernel
theorem dX0_isTurnKind_14 : decode cX0_isTurnKind 14 = .ok (.ireturn, 1) := by decide +kernel
theorem dX0_isMeasureKind_0 : decode cX0_isMeasureKind 0 = .ok (.iload_n 0, 1) := by decide +kernel
theorem dX0_isMeasureKind_1 : decode cX0_isMeasureKind 1 = .ok (.ifCond .lt 12, 3) := by decide +kernel
theorem dX0_isMeasureKind_4 : decode cX0_isMeasureKind 4 = .ok (.iload_n 0, 1) := by decide +kernel
theorem dX0_isMeasureKind_5 : decode cX0_isMeasureKind 5 = .ok (.iconst 2, 1) := by decide +kernel
theorem dX0_isMeasureKind_6 : decode cX0_isMeasureKind 6 = .ok (.if_icmp .gt 7, 3) := by decide +kernel
theorem dX0_isMeasureKind_9 : decode cX0_isMeasureKind 9 = .ok (.iconst 1, 1) := by decide +kernel
theorem dX0_isMeasureKind_10 : decode cX0_isMeasureKind 10 = .ok (.goto 4, 3) := by decide +kernel
theorem dX0_isMeasureKind_13 : decode cX0_isMeasureKind 13 = .ok (.iconst 0, 1) := by decide +kernel
theorem dX0_isMeasureKind_14 : decode cX0_isMeasureKind 14 = .ok (.ireturn, 1) := by decide +kernel
theorem dX0_isTurnNumber_0 : decode cX0_isTurnNumber 0 = .ok (.iload_n 0, 1) := by decide +kernel
theorem dX0_isTurnNumber_1 : decode cX0_isTurnNumber 1 = .ok (.ifCond .lt 14, 3) := by decide +kernel
theorem dX0_isTurnNumber_4 : decode cX0_isTurnNumber 4 = .ok (.iload_n 0, 1) := by decide +kernel
theorem dX0_isTurnNumber_5 : decode cX0_isTurnNumber 5 = .ok (.sipush 1000, 3) := by decide +kernel
theorem dX0_isTurnNumber_8 : decode cX0_isTurnNumber 8 = .ok (.if_icmp .gt 7, 3) := by decide +kernel
theorem dX0_isTurnNumber_11 : decode cX0_isTurnNumber 11 = .ok (.iconst 1, 1) := by decide +kernel
theorem dX0_isTurnNumber_12 : decode cX0_isTurnNumber 12 = .ok (.goto 4, 3) := by decide +kernel
theorem dX0_isTurnNumber_15 : decode cX0_isTurnNumber 15 = .ok (.iconst 0, 1) := by decide +kernel
theorem dX0_isTurnNumber_16 : decode cX0_isTurnNumber 16 = .ok (.ireturn, 1) := by decide +kernel
theorem dX0_isHeight_0 : decode cX0_isHeight 0 = .ok (.iload_n 0, 1) := by decide +kernel
theorem dX0_isHeight_1 : decode cX0_isHeight 1 = .ok (.iconst 1, 1) := by decide +kernel
theorem dX0_isHeight_2 : decode cX0_isHeight 2 = .ok (.if_icmp .lt 12, 3) := by decide +kernel
theorem dX0_isHeight_5 : decode cX0_isHeight 5 = .ok (.iload_n 0, 1) := by decide +kernel
theorem dX0_isHeight_6 : decode cX0_isHeight 6 = .ok (.iconst 3, 1) := by decide +kernel
theorem dX0_isHeight_7 : decode cX0_isHeight 7 = .ok (.if_icmp .gt 7, 3) := by decide +kernel
theorem dX0_isHeight_10 : decode cX0_isHeight 10 = .ok (.iconst 1, 1) := by decide +kernel
theorem dX0_isHeight_11 : decode cX0_isHeight 11 = .ok (.goto 4, 3) := by decide +kernel
theorem dX0_isHeight_14 : decode cX0_isHeight 14 = .ok (.iconst 0, 1) := by decide +kernel
theorem dX0_isHeight_15 : decode cX0_isHeight 15 = .ok (.ireturn, 1) := by decide +kernel
theorem dX0_setCount_0 : decode cX0_setCount 0 = .ok (.iconst 1, 1) := by decide +kernel
theorem dX0_setCount_1 : decode cX0_setCount 1 = .ok (.aload_n 0, 1) := by decide +kernel
theorem dX0_setCount_2 : decode cX0_setCount 2 = .ok (.getfield 9, 3) := by decide +kernel
theorem dX0_setCount_5 : decode cX0_setCount 5 = .ok (.ishl, 1) := by decide +kernel
theorem dX0_setCount_6 : decode cX0_setCount 6 = .ok (.ireturn, 1) := by decide +kernel
theorem dX0_has_0 : decode cX0_has 0 = .ok (.iload_n 0, 1) := by decide +kernel
theorem dX0_has_1 : decode cX0_has 1 = .ok (.iload_n 1, 1) := by decide +kernel
theorem dX0_has_2 : decode cX0_has 2 = .ok (.ishr, 1) := by decide +kernel
theorem dX0_has_3 : decode cX0_has 3 = .ok (.iconst 1, 1) := by decide +kernel
theorem dX0_has_4 : decode cX0_has 4 = .ok (.iand, 1) := by decide +kernel
theorem dX0_has_5 : decode cX0_has 5 = .ok (.ifCond .eq 7, 3) := by decide +kernel
theorem dX0_has_8 : decode cX0_has 8 = .ok (.iconst 1, 1) := by decide +kernel
theorem dX0_has_9 : decode cX0_has 9 = .ok (.goto 4, 3) := by decide +kernel
theorem dX0_has_12 : decode cX0_has 12 = .ok (.iconst 0, 1) := by decide +kernel
theorem dX0_has_13 : decode cX0_has 13 = .ok (.ireturn, 1) := by decide +kernel
set_option maxRecDepth 20000 in
theorem ggX0_isHeap_X0_isSet : GoodIn wsX0_isHeap wsX0_isSet := goodIn_r _ [7, 8, 9, 10, 6, 11, 1, 15, 16, 17, 18, 19, 20, 21, 22, 23, 24, 25, 26, 27] (by decide +kernel) (by decide +kernel)
set_option maxRecDepth 20000 in
theorem gX0_isHeap_X0_isSet : GoodIn wsX0_isHeap (wsV RX0 57 RX0 yX0_isSet wsX0_isSet) := goodIn_app (goodIn_of _ (by decide +kernel)) ggX0_isHeap_X0_isSet
set_option maxRecDepth 20000 in
theorem ggX0_isHeap_X0_has : GoodIn wsX0_isHeap wsX0_has := goodIn_r _ [14] (by decide +kernel) (by decide +kernel)
set_option maxRecDepth 20000 in
theorem gX0_isHeap_X0_has : GoodIn wsX0_isHeap (va_wsS RX0 52 yX0_has wsX0_has) := goodIn_app (goodIn_of _ (by decide +kernel)) ggX0_isHeap_X0_has
theorem dX0_isHeap_0 : decode cX0_isHeap 0 = .ok (.aload_n 0, 1) := by decide +kernel
theorem dX0_isHeap_1 : decode cX0_isHeap 1 = .ok (.iload_n 1, 1) := by decide +kernel
theorem dX0_isHeap_2 : decode cX0_isHeap 2 = .ok (.invokevirtual 57, 3) := by decide +kernel
theorem dX0_isHeap_5 : decode cX0_isHeap 5 = .ok (.ifCond .ne 5, 3) := by decide +kernel
theorem dX0_isHeap_8 : decode cX0_isHeap 8 = .ok (.iconst 0, 1) := by decide +kernel
theorem dX0_isHeap_9 : decode cX0_isHeap 9 = .ok (.ireturn, 1) := by decide +kernel
theorem dX0_isHeap_10 : decode cX0_isHeap 10 = .ok (.iconst 0, 1) := by decide +kernel
theorem dX0_isHeap_11 : decode cX0_isHeap 11 = .ok (.istore_n 2, 1) := by decide +kernel
theorem dX0_isHeap_12 : decode cX0_isHeap 12 = .ok (.iload_n 2, 1) := by decide +kernel
theorem dX0_isHeap_13 : decode cX0_isHeap 13 = .ok (.aload_n 0, 1) := by decide +kernel
theorem dX0_isHeap_14 : decode cX0_isHeap 14 = .ok (.getfield 9, 3) := by decide +kernel
theorem dX0_isHeap_17 : decode cX0_isHeap 17 = .ok (.if_icmp .ge 32, 3) := by decide +kernel
theorem dX0_isHeap_20 : decode cX0_isHeap 20 = .ok (.iload_n 1, 1) := by decide +kernel
theorem dX0_isHeap_21 : decode cX0_isHeap 21 = .ok (.iload_n 2, 1) := by decide +kernel
theorem dX0_isHeap_22 : decode cX0_isHeap 22 = .ok (.invokestatic 52, 3) := by decide +kernel
theorem dX0_isHeap_25 : decode cX0_isHeap 25 = .ok (.ifCond .eq 18, 3) := by decide +kernel
theorem dX0_isHeap_28 : decode cX0_isHeap 28 = .ok (.aload_n 0, 1) := by decide +kernel
theorem dX0_isHeap_29 : decode cX0_isHeap 29 = .ok (.getfield 13, 3) := by decide +kernel
theorem dX0_isHeap_32 : decode cX0_isHeap 32 = .ok (.iload_n 2, 1) := by decide +kernel
theorem dX0_isHeap_33 : decode cX0_isHeap 33 = .ok (.iaload, 1) := by decide +kernel
theorem dX0_isHeap_34 : decode cX0_isHeap 34 = .ok (.iload_n 1, 1) := by decide +kernel
theorem dX0_isHeap_35 : decode cX0_isHeap 35 = .ok (.iconst (-1), 1) := by decide +kernel
theorem dX0_isHeap_36 : decode cX0_isHeap 36 = .ok (.ixor, 1) := by decide +kernel
theorem dX0_isHeap_37 : decode cX0_isHeap 37 = .ok (.iand, 1) := by decide +kernel
theorem dX0_isHeap_38 : decode cX0_isHeap 38 = .ok (.ifCond .eq 5, 3) := by decide +kernel
theorem dX0_isHeap_41 : decode cX0_isHeap 41 = .ok (.iconst 0, 1) := by decide +kernel
theorem dX0_isHeap_42 : decode cX0_isHeap 42 = .ok (.ireturn, 1) := by decide +kernel
theorem dX0_isHeap_43 : decode cX0_isHeap 43 = .ok (.iinc 2 1, 3) := by decide +kernel
theorem dX0_isHeap_46 : decode cX0_isHeap 46 = .ok (.goto (-34), 3) := by decide +kernel
theorem dX0_isHeap_49 : decode cX0_isHeap 49 = .ok (.iconst 1, 1) := by decide +kernel
theorem dX0_isHeap_50 : decode cX0_isHeap 50 = .ok (.ireturn, 1) := by decide +kernel
set_option maxRecDepth 20000 in
theorem ggX0_flipped_X0_has : GoodIn wsX0_flipped wsX0_has := goodIn_r _ [6] (by decide +kernel) (by decide +kernel)
set_option maxRecDepth 20000 in
theorem gX0_flipped_X0_has : GoodIn wsX0_flipped (va_wsS RX0 52 yX0_has wsX0_has) := goodIn_app (goodIn_of _ (by decide +kernel)) ggX0_flipped_X0_has
theorem dX0_flipped_0 : decode cX0_flipped 0 = .ok (.iload_n 1, 1) := by decide +kernel
theorem dX0_flipped_1 : decode cX0_flipped 1 = .ok (.iload_n 2, 1) := by decide +kernel
theorem dX0_flipped_2 : decode cX0_flipped 2 = .ok (.invokestatic 52, 3) := by decide +kernel
theorem dX0_flipped_5 : decode cX0_flipped 5 = .ok (.ifCond .eq 14, 3) := by decide +kernel
theorem dX0_flipped_8 : decode cX0_flipped 8 = .ok (.aload_n 0, 1) := by decide +kernel
theorem dX0_flipped_9 : decode cX0_flipped 9 = .ok (.getfield 17, 3) := by decide +kernel
theorem dX0_flipped_12 : decode cX0_flipped 12 = .ok (.iload_n 2, 1) := by decide +kernel
theorem dX0_flipped_13 : decode cX0_flipped 13 = .ok (.iaload, 1) := by decide +kernel
theorem dX0_flipped_14 : decode cX0_flipped 14 = .ok (.iload_n 1, 1) := by decide +kernel
theorem dX0_flipped_15 : decode cX0_flipped 15 = .ok (.iand, 1) := by decide +kernel
theorem dX0_flipped_16 : decode cX0_flipped 16 = .ok (.goto 13, 3) := by decide +kernel
theorem dX0_flipped_19 : decode cX0_flipped 19 = .ok (.aload_n 0, 1) := by decide +kernel
theorem dX0_flipped_20 : decode cX0_flipped 20 = .ok (.getfield 13, 3) := by decide +kernel
theorem dX0_flipped_23 : decode cX0_flipped 23 = .ok (.iload_n 2, 1) := by decide +kernel
theorem dX0_flipped_24 : decode cX0_flipped 24 = .ok (.iaload, 1) := by decide +kernel
theorem dX0_flipped_25 : decode cX0_flipped 25 = .ok (.iload_n 1, 1) := by decide +kernel
theorem dX0_flipped_26 : decode cX0_flipped 26 = .ok (.iconst (-1), 1) := by decide +kernel
theorem dX0_flipped_27 : decode cX0_flipped 27 = .ok (.ixor, 1) := by decide +kernel
theorem dX0_flipped_28 : decode cX0_flipped 28 = .ok (.iand, 1) := by decide +kernel
theorem dX0_flipped_29 : decode cX0_flipped 29 = .ok (.istore_n 3, 1) := by decide +kernel
theorem dX0_flipped_30 : decode cX0_flipped 30 = .ok (.iload_n 3, 1) := by decide +kernel
theorem dX0_flipped_31 : decode cX0_flipped 31 = .ok (.ifCond .ne 11, 3) := by decide +kernel
theorem dX0_flipped_34 : decode cX0_flipped 34 = .ok (.iload_n 1, 1) := by decide +kernel
theorem dX0_flipped_35 : decode cX0_flipped 35 = .ok (.iconst 1, 1) := by decide +kernel
theorem dX0_flipped_36 : decode cX0_flipped 36 = .ok (.iload_n 2, 1) := by decide +kernel
theorem dX0_flipped_37 : decode cX0_flipped 37 = .ok (.ishl, 1) := by decide +kernel
theorem dX0_flipped_38 : decode cX0_flipped 38 = .ok (.ixor, 1) := by decide +kernel
theorem dX0_flipped_39 : decode cX0_flipped 39 = .ok (.goto 4, 3) := by decide +kernel
theorem dX0_flipped_42 : decode cX0_flipped 42 = .ok (.iload_n 1, 1) := by decide +kernel
theorem dX0_flipped_43 : decode cX0_flipped 43 = .ok (.ireturn, 1) := by decide +kernel
set_option maxRecDepth 20000 in
theorem ggX0_turned_X0_turnedRound : GoodIn wsX0_turned wsX0_turnedRound := goodIn_r _ [5, 6, 7, 8, 9, 4, 10, 22, 23, 24, 25, 26, 27, 28, 29, 30, 31, 32, 33, 34] (by decide +kernel) (by decide +kernel)
set_option maxRecDepth 20000 in
theorem gX0_turned_X0_turnedRound : GoodIn wsX0_turned (wsV RX0 147 RX0 yX0_turnedRound wsX0_turnedRound) := goodIn_app (goodIn_of _ (by decide +kernel)) ggX0_turned_X0_turnedRound
set_option maxRecDepth 20000 in
theorem ggX0_turned_X0_turnedByChain : GoodIn wsX0_turned wsX0_turnedByChain := goodIn_r _ [14, 15, 16, 17, 18, 19, 4, 20, 21, 7, 8, 9, 10, 22, 23, 24, 25, 26, 27, 28, 29, 30, 31, 32, 33, 34] (by decide +kernel) (by decide +kernel)
set_option maxRecDepth 20000 in
theorem gX0_turned_X0_turnedByChain : GoodIn wsX0_turned (wsV RX0 150 RX0 yX0_turnedByChain wsX0_turnedByChain) := goodIn_app (goodIn_of _ (by decide +kernel)) ggX0_turned_X0_turnedByChain
theorem dX0_turned_0 : decode cX0_turned 0 = .ok (.iload_n 2, 1) := by decide +kernel
end
section
theorem dX0_turned_1 : decode cX0_turned 1 = .ok (.ifCond .ne 11, 3) := by decide +kernel
theorem dX0_turned_4 : decode cX0_turned 4 = .ok (.aload_n 0, 1) := by decide +kernel
theorem dX0_turned_5 : decode cX0_turned 5 = .ok (.iload_n 1, 1) := by decide +kernel
theorem dX0_turned_6 : decode cX0_turned 6 = .ok (.invokevirtual 147, 3) := by decide +kernel
theorem dX0_turned_9 : decode cX0_turned 9 = .ok (.goto 8, 3) := by decide +kernel
theorem dX0_turned_12 : decode cX0_turned 12 = .ok (.aload_n 0, 1) := by decide +kernel
theorem dX0_turned_13 : decode cX0_turned 13 = .ok (.iload_n 1, 1) := by decide +kernel
theorem dX0_turned_14 : decode cX0_turned 14 = .ok (.invokevirtual 150, 3) := by decide +kernel
theorem dX0_turned_17 : decode cX0_turned 17 = .ok (.ireturn, 1) := by decide +kernel
set_option maxRecDepth 20000 in
theorem ggX0_turnedRound_X0_has : GoodIn wsX0_turnedRound wsX0_has := goodIn_r _ [6] (by decide +kernel) (by decide +kernel)
set_option maxRecDepth 20000 in
theorem gX0_turnedRound_X0_has : GoodIn wsX0_turnedRound (va_wsS RX0 52 yX0_has wsX0_has) := goodIn_app (goodIn_of _ (by decide +kernel)) ggX0_turnedRound_X0_has
theorem dX0_turnedRound_0 : decode cX0_turnedRound 0 = .ok (.iconst 0, 1) := by decide +kernel
theorem dX0_turnedRound_1 : decode cX0_turnedRound 1 = .ok (.istore_n 2, 1) := by decide +kernel
theorem dX0_turnedRound_2 : decode cX0_turnedRound 2 = .ok (.iconst 0, 1) := by decide +kernel
theorem dX0_turnedRound_3 : decode cX0_turnedRound 3 = .ok (.istore_n 3, 1) := by decide +kernel
theorem dX0_turnedRound_4 : decode cX0_turnedRound 4 = .ok (.iload_n 3, 1) := by decide +kernel
theorem dX0_turnedRound_5 : decode cX0_turnedRound 5 = .ok (.aload_n 0, 1) := by decide +kernel
theorem dX0_turnedRound_6 : decode cX0_turnedRound 6 = .ok (.getfield 9, 3) := by decide +kernel
theorem dX0_turnedRound_9 : decode cX0_turnedRound 9 = .ok (.if_icmp .ge 43, 3) := by decide +kernel
theorem dX0_turnedRound_12 : decode cX0_turnedRound 12 = .ok (.iload_n 1, 1) := by decide +kernel
theorem dX0_turnedRound_13 : decode cX0_turnedRound 13 = .ok (.iload_n 3, 1) := by decide +kernel
theorem dX0_turnedRound_14 : decode cX0_turnedRound 14 = .ok (.invokestatic 52, 3) := by decide +kernel
theorem dX0_turnedRound_17 : decode cX0_turnedRound 17 = .ok (.ifCond .ne 29, 3) := by decide +kernel
theorem dX0_turnedRound_20 : decode cX0_turnedRound 20 = .ok (.aload_n 0, 1) := by decide +kernel
theorem dX0_turnedRound_21 : decode cX0_turnedRound 21 = .ok (.getfield 13, 3) := by decide +kernel
theorem dX0_turnedRound_24 : decode cX0_turnedRound 24 = .ok (.iload_n 3, 1) := by decide +kernel
theorem dX0_turnedRound_25 : decode cX0_turnedRound 25 = .ok (.iaload, 1) := by decide +kernel
theorem dX0_turnedRound_26 : decode cX0_turnedRound 26 = .ok (.iload_n 1, 1) := by decide +kernel
theorem dX0_turnedRound_27 : decode cX0_turnedRound 27 = .ok (.iconst (-1), 1) := by decide +kernel
theorem dX0_turnedRound_28 : decode cX0_turnedRound 28 = .ok (.ixor, 1) := by decide +kernel
theorem dX0_turnedRound_29 : decode cX0_turnedRound 29 = .ok (.iand, 1) := by decide +kernel
theorem dX0_turnedRound_30 : decode cX0_turnedRound 30 = .ok (.ifCond .ne 16, 3) := by decide +kernel
theorem dX0_turnedRound_33 : decode cX0_turnedRound 33 = .ok (.iload_n 2, 1) := by decide +kernel
theorem dX0_turnedRound_34 : decode cX0_turnedRound 34 = .ok (.aload_n 0, 1) := by decide +kernel
theorem dX0_turnedRound_35 : decode cX0_turnedRound 35 = .ok (.getfield 13, 3) := by decide +kernel
theorem dX0_turnedRound_38 : decode cX0_turnedRound 38 = .ok (.iload_n 3, 1) := by decide +kernel
theorem dX0_turnedRound_39 : decode cX0_turnedRound 39 = .ok (.iaload, 1) := by decide +kernel
theorem dX0_turnedRound_40 : decode cX0_turnedRound 40 = .ok (.iconst 1, 1) := by decide +kernel
theorem dX0_turnedRound_41 : decode cX0_turnedRound 41 = .ok (.iload_n 3, 1) := by decide +kernel
theorem dX0_turnedRound_42 : decode cX0_turnedRound 42 = .ok (.ishl, 1) := by decide +kernel
theorem dX0_turnedRound_43 : decode cX0_turnedRound 43 = .ok (.ior, 1) := by decide +kernel
theorem dX0_turnedRound_44 : decode cX0_turnedRound 44 = .ok (.ior, 1) := by decide +kernel
theorem dX0_turnedRound_45 : decode cX0_turnedRound 45 = .ok (.istore_n 2, 1) := by decide +kernel
theorem dX0_turnedRound_46 : decode cX0_turnedRound 46 = .ok (.iinc 3 1, 3) := by decide +kernel
theorem dX0_turnedRound_49 : decode cX0_turnedRound 49 = .ok (.goto (-45), 3) := by decide +kernel
theorem dX0_turnedRound_52 : decode cX0_turnedRound 52 = .ok (.iload_n 2, 1) := by decide +kernel
theorem dX0_turnedRound_53 : decode cX0_turnedRound 53 = .ok (.ireturn, 1) := by decide +kernel
set_option maxRecDepth 20000 in
theorem ggX0_turnedByChain_X0_flipped : GoodIn wsX0_turnedByChain wsX0_flipped := goodIn_r _ [7, 8, 9, 10, 11, 6, 12, 13, 14, 15, 16, 17, 18, 19, 20, 21, 22, 23, 24, 25] (by decide +kernel) (by decide +kernel)
set_option maxRecDepth 20000 in
theorem gX0_turnedByChain_X0_flipped : GoodIn wsX0_turnedByChain (wsV RX0 67 RX0 yX0_flipped wsX0_flipped) := goodIn_app (goodIn_of _ (by decide +kernel)) ggX0_turnedByChain_X0_flipped
theorem dX0_turnedByChain_0 : decode cX0_turnedByChain 0 = .ok (.iload_n 1, 1) := by decide +kernel
theorem dX0_turnedByChain_1 : decode cX0_turnedByChain 1 = .ok (.istore_n 2, 1) := by decide +kernel
theorem dX0_turnedByChain_2 : decode cX0_turnedByChain 2 = .ok (.iconst 0, 1) := by decide +kernel
theorem dX0_turnedByChain_3 : decode cX0_turnedByChain 3 = .ok (.istore_n 3, 1) := by decide +kernel
theorem dX0_turnedByChain_4 : decode cX0_turnedByChain 4 = .ok (.iload_n 3, 1) := by decide +kernel
theorem dX0_turnedByChain_5 : decode cX0_turnedByChain 5 = .ok (.aload_n 0, 1) := by decide +kernel
theorem dX0_turnedByChain_6 : decode cX0_turnedByChain 6 = .ok (.getfield 45, 3) := by decide +kernel
theorem dX0_turnedByChain_9 : decode cX0_turnedByChain 9 = .ok (.if_icmp .ge 21, 3) := by decide +kernel
theorem dX0_turnedByChain_12 : decode cX0_turnedByChain 12 = .ok (.aload_n 0, 1) := by decide +kernel
theorem dX0_turnedByChain_13 : decode cX0_turnedByChain 13 = .ok (.iload_n 2, 1) := by decide +kernel
theorem dX0_turnedByChain_14 : decode cX0_turnedByChain 14 = .ok (.aload_n 0, 1) := by decide +kernel
theorem dX0_turnedByChain_15 : decode cX0_turnedByChain 15 = .ok (.getfield 23, 3) := by decide +kernel
theorem dX0_turnedByChain_18 : decode cX0_turnedByChain 18 = .ok (.iload_n 3, 1) := by decide +kernel
theorem dX0_turnedByChain_19 : decode cX0_turnedByChain 19 = .ok (.iaload, 1) := by decide +kernel
theorem dX0_turnedByChain_20 : decode cX0_turnedByChain 20 = .ok (.invokevirtual 67, 3) := by decide +kernel
theorem dX0_turnedByChain_23 : decode cX0_turnedByChain 23 = .ok (.istore_n 2, 1) := by decide +kernel
theorem dX0_turnedByChain_24 : decode cX0_turnedByChain 24 = .ok (.iinc 3 1, 3) := by decide +kernel
theorem dX0_turnedByChain_27 : decode cX0_turnedByChain 27 = .ok (.goto (-23), 3) := by decide +kernel
theorem dX0_turnedByChain_30 : decode cX0_turnedByChain 30 = .ok (.iload_n 2, 1) := by decide +kernel
theorem dX0_turnedByChain_31 : decode cX0_turnedByChain 31 = .ok (.ireturn, 1) := by decide +kernel
set_option maxRecDepth 20000 in
theorem ggX0_pairCount_J6_bitCount_0f7a4 : GoodIn wsX0_pairCount wsJ6_bitCount_0f7a4 := goodIn_r _ [6, 7, 8, 9] (by decide +kernel) (by decide +kernel)
set_option maxRecDepth 20000 in
theorem gX0_pairCount_J6_bitCount_0f7a4 : GoodIn wsX0_pairCount (va_wsS RX0 153 yJ6_bitCount_0f7a4 wsJ6_bitCount_0f7a4) := goodIn_app (goodIn_of _ (by decide +kernel)) ggX0_pairCount_J6_bitCount_0f7a4
theorem dX0_pairCount_0 : decode cX0_pairCount 0 = .ok (.iconst 0, 1) := by decide +kernel
theorem dX0_pairCount_1 : decode cX0_pairCount 1 = .ok (.istore_n 1, 1) := by decide +kernel
theorem dX0_pairCount_2 : decode cX0_pairCount 2 = .ok (.iconst 0, 1) := by decide +kernel
theorem dX0_pairCount_3 : decode cX0_pairCount 3 = .ok (.istore_n 2, 1) := by decide +kernel
theorem dX0_pairCount_4 : decode cX0_pairCount 4 = .ok (.iload_n 2, 1) := by decide +kernel
theorem dX0_pairCount_5 : decode cX0_pairCount 5 = .ok (.aload_n 0, 1) := by decide +kernel
theorem dX0_pairCount_6 : decode cX0_pairCount 6 = .ok (.getfield 9, 3) := by decide +kernel
theorem dX0_pairCount_9 : decode cX0_pairCount 9 = .ok (.if_icmp .ge 21, 3) := by decide +kernel
theorem dX0_pairCount_12 : decode cX0_pairCount 12 = .ok (.iload_n 1, 1) := by decide +kernel
theorem dX0_pairCount_13 : decode cX0_pairCount 13 = .ok (.aload_n 0, 1) := by decide +kernel
theorem dX0_pairCount_14 : decode cX0_pairCount 14 = .ok (.getfield 13, 3) := by decide +kernel
theorem dX0_pairCount_17 : decode cX0_pairCount 17 = .ok (.iload_n 2, 1) := by decide +kernel
theorem dX0_pairCount_18 : decode cX0_pairCount 18 = .ok (.iaload, 1) := by decide +kernel
theorem dX0_pairCount_19 : decode cX0_pairCount 19 = .ok (.invokestatic 153, 3) := by decide +kernel
theorem dX0_pairCount_22 : decode cX0_pairCount 22 = .ok (.iadd, 1) := by decide +kernel
theorem dX0_pairCount_23 : decode cX0_pairCount 23 = .ok (.istore_n 1, 1) := by decide +kernel
theorem dX0_pairCount_24 : decode cX0_pairCount 24 = .ok (.iinc 2 1, 3) := by decide +kernel
theorem dX0_pairCount_27 : decode cX0_pairCount 27 = .ok (.goto (-23), 3) := by decide +kernel
theorem dX0_pairCount_30 : decode cX0_pairCount 30 = .ok (.iload_n 1, 1) := by decide +kernel
theorem dX0_pairCount_31 : decode cX0_pairCount 31 = .ok (.ireturn, 1) := by decide +kernel
set_option maxRecDepth 20000 in
theorem ggX0_countSizes_X0_setCount : GoodIn wsX0_countSizes wsX0_setCount := goodIn_r _ [7, 1, 27, 28, 29, 30, 31, 32, 33, 34, 35, 36, 37, 38, 39] (by decide +kernel) (by decide +kernel)
set_option maxRecDepth 20000 in
theorem gX0_countSizes_X0_setCount : GoodIn wsX0_countSizes (wsV RX0 63 RX0 yX0_setCount wsX0_setCount) := goodIn_app (goodIn_of _ (by decide +kernel)) ggX0_countSizes_X0_setCount
set_option maxRecDepth 20000 in
theorem ggX0_countSizes_X0_isHeap : GoodIn wsX0_countSizes wsX0_isHeap := goodIn_r _ [11, 1, 12, 13, 14, 15, 6, 16, 3, 4, 5, 7, 17, 18, 19, 27, 28, 29, 30, 31, 32, 33, 34, 35, 36, 37, 38, 39] (by decide +kernel) (by decide +kernel)
set_option maxRecDepth 20000 in
theorem gX0_countSizes_X0_isHeap : GoodIn wsX0_countSizes (wsV RX0 60 RX0 yX0_isHeap wsX0_isHeap) := goodIn_app (goodIn_of _ (by decide +kernel)) ggX0_countSizes_X0_isHeap
set_option maxRecDepth 20000 in
theorem ggX0_countSizes_J6_bitCount_0f7a4 : GoodIn wsX0_countSizes wsJ6_bitCount_0f7a4 := goodIn_r _ [23, 24, 25, 26] (by decide +kernel) (by decide +kernel)
set_option maxRecDepth 20000 in
theorem gX0_countSizes_J6_bitCount_0f7a4 : GoodIn wsX0_countSizes (va_wsS RX0 153 yJ6_bitCount_0f7a4 wsJ6_bitCount_0f7a4) := goodIn_app (goodIn_of _ (by decide +kernel)) ggX0_countSizes_J6_bitCount_0f7a4
theorem dX0_countSizes_0 : decode cX0_countSizes 0 = .ok (.iconst 0, 1) := by decide +kernel
theorem dX0_countSizes_1 : decode cX0_countSizes 1 = .ok (.istore_n 1, 1) := by decide +kernel
theorem dX0_countSizes_2 : decode cX0_countSizes 2 = .ok (.iload_n 1, 1) := by decide +kernel
theorem dX0_countSizes_3 : decode cX0_countSizes 3 = .ok (.aload_n 0, 1) := by decide +kernel
theorem dX0_countSizes_4 : decode cX0_countSizes 4 = .ok (.getfield 9, 3) := by decide +kernel
theorem dX0_countSizes_7 : decode cX0_countSizes 7 = .ok (.if_icmp .gt 16, 3) := by decide +kernel
theorem dX0_countSizes_10 : decode cX0_countSizes 10 = .ok (.aload_n 0, 1) := by decide +kernel
theorem dX0_countSizes_11 : decode cX0_countSizes 11 = .ok (.getfield 29, 3) := by decide +kernel
theorem dX0_countSizes_14 : decode cX0_countSizes 14 = .ok (.iload_n 1, 1) := by decide +kernel
theorem dX0_countSizes_15 : decode cX0_countSizes 15 = .ok (.iconst 0, 1) := by decide +kernel
theorem dX0_countSizes_16 : decode cX0_countSizes 16 = .ok (.iastore, 1) := by decide +kernel
theorem dX0_countSizes_17 : decode cX0_countSizes 17 = .ok (.iinc 1 1, 3) := by decide +kernel
theorem dX0_countSizes_20 : decode cX0_countSizes 20 = .ok (.goto (-18), 3) := by decide +kernel
theorem dX0_countSizes_23 : decode cX0_countSizes 23 = .ok (.iconst 0, 1) := by decide +kernel
theorem dX0_countSizes_24 : decode cX0_countSizes 24 = .ok (.istore_n 1, 1) := by decide +kernel
theorem dX0_countSizes_25 : decode cX0_countSizes 25 = .ok (.iload_n 1, 1) := by decide +kernel
theorem dX0_countSizes_26 : decode cX0_countSizes 26 = .ok (.aload_n 0, 1) := by decide +kernel
theorem dX0_countSizes_27 : decode cX0_countSizes 27 = .ok (.invokevirtual 63, 3) := by decide +kernel
theorem dX0_countSizes_30 : decode cX0_countSizes 30 = .ok (.if_icmp .ge 30, 3) := by decide +kernel
theorem dX0_countSizes_33 : decode cX0_countSizes 33 = .ok (.aload_n 0, 1) := by decide +kernel
theorem dX0_countSizes_34 : decode cX0_countSizes 34 = .ok (.iload_n 1, 1) := by decide +kernel
theorem dX0_countSizes_35 : decode cX0_countSizes 35 = .ok (.invokevirtual 60, 3) := by decide +kernel
theorem dX0_countSizes_38 : decode cX0_countSizes 38 = .ok (.ifCond .eq 16, 3) := by decide +kernel
theorem dX0_countSizes_41 : decode cX0_countSizes 41 = .ok (.aload_n 0, 1) := by decide +kernel
theorem dX0_countSizes_42 : decode cX0_countSizes 42 = .ok (.getfield 29, 3) := by decide +kernel
theorem dX0_countSizes_45 : decode cX0_countSizes 45 = .ok (.iload_n 1, 1) := by decide +kernel
theorem dX0_countSizes_46 : decode cX0_countSizes 46 = .ok (.invokestatic 153, 3) := by decide +kernel
theorem dX0_countSizes_49 : decode cX0_countSizes 49 = .ok (.dup2, 1) := by decide +kernel
theorem dX0_countSizes_50 : decode cX0_countSizes 50 = .ok (.iaload, 1) := by decide +kernel
theorem dX0_countSizes_51 : decode cX0_countSizes 51 = .ok (.iconst 1, 1) := by decide +kernel
theorem dX0_countSizes_52 : decode cX0_countSizes 52 = .ok (.iadd, 1) := by decide +kernel
theorem dX0_countSizes_53 : decode cX0_countSizes 53 = .ok (.iastore, 1) := by decide +kernel
theorem dX0_countSizes_54 : decode cX0_countSizes 54 = .ok (.iinc 1 1, 3) := by decide +kernel
theorem dX0_countSizes_57 : decode cX0_countSizes 57 = .ok (.goto (-32), 3) := by decide +kernel
theorem dX0_countSizes_60 : decode cX0_countSizes 60 = .ok (.return_, 1) := by decide +kernel
set_option maxRecDepth 20000 in
theorem ggX0_walkOrbit_X0_turned : GoodIn wsX0_walkOrbit wsX0_turned := goodIn_r _ [6, 7, 8, 9, 5, 10, 11, 12, 13, 14, 15, 16, 17, 18, 19, 20, 21, 22, 23, 24, 25, 26, 27, 28, 29, 30, 31, 32, 33, 34, 35, 36, 37, 38, 39] (by decide +kernel) (by decide +kernel)
set_option maxRecDepth 20000 in
theorem gX0_walkOrbit_X0_turned : GoodIn wsX0_walkOrbit (wsV RX0 77 RX0 yX0_turned wsX0_turned) := goodIn_app (goodIn_of _ (by decide +kernel)) ggX0_walkOrbit_X0_turned
theorem dX0_walkOrbit_0 : decode cX0_walkOrbit 0 = .ok (.iload_n 1, 1) := by decide +kernel
theorem dX0_walkOrbit_1 : decode cX0_walkOrbit 1 = .ok (.istore_n 3, 1) := by decide +kernel
theorem dX0_walkOrbit_2 : decode cX0_walkOrbit 2 = .ok (.iconst 0, 1) := by decide +kernel
theorem dX0_walkOrbit_3 : decode cX0_walkOrbit 3 = .ok (.istore 4, 2) := by decide +kernel
theorem dX0_walkOrbit_5 : decode cX0_walkOrbit 5 = .ok (.aload_n 0, 1) := by decide +kernel
theorem dX0_walkOrbit_6 : decode cX0_walkOrbit 6 = .ok (.getfield 41, 3) := by decide +kernel
theorem dX0_walkOrbit_9 : decode cX0_walkOrbit 9 = .ok (.iload_n 3, 1) := by decide +kernel
theorem dX0_walkOrbit_10 : decode cX0_walkOrbit 10 = .ok (.iconst 1, 1) := by decide +kernel
theorem dX0_walkOrbit_11 : decode cX0_walkOrbit 11 = .ok (.bastore, 1) := by decide +kernel
theorem dX0_walkOrbit_12 : decode cX0_walkOrbit 12 = .ok (.aload_n 0, 1) := by decide +kernel
theorem dX0_walkOrbit_13 : decode cX0_walkOrbit 13 = .ok (.iload_n 3, 1) := by decide +kernel
theorem dX0_walkOrbit_14 : decode cX0_walkOrbit 14 = .ok (.iload_n 2, 1) := by decide +kernel
theorem dX0_walkOrbit_15 : decode cX0_walkOrbit 15 = .ok (.invokevirtual 77, 3) := by decide +kernel
theorem dX0_walkOrbit_18 : decode cX0_walkOrbit 18 = .ok (.istore_n 3, 1) := by decide +kernel
theorem dX0_walkOrbit_19 : decode cX0_walkOrbit 19 = .ok (.iinc 4 1, 3) := by decide +kernel
theorem dX0_walkOrbit_22 : decode cX0_walkOrbit 22 = .ok (.iload_n 3, 1) := by decide +kernel
theorem dX0_walkOrbit_23 : decode cX0_walkOrbit 23 = .ok (.iload_n 1, 1) := by decide +kernel
theorem dX0_walkOrbit_24 : decode cX0_walkOrbit 24 = .ok (.if_icmp .eq 11, 3) := by decide +kernel
theorem dX0_walkOrbit_27 : decode cX0_walkOrbit 27 = .ok (.iload 4, 2) := by decide +kernel
theorem dX0_walkOrbit_29 : decode cX0_walkOrbit 29 = .ok (.sipush 256, 3) := by decide +kernel
theorem dX0_walkOrbit_32 : decode cX0_walkOrbit 32 = .ok (.if_icmp .lt (-27), 3) := by decide +kernel
theorem dX0_walkOrbit_35 : decode cX0_walkOrbit 35 = .ok (.iload 4, 2) := by decide +kernel
theorem dX0_walkOrbit_37 : decode cX0_walkOrbit 37 = .ok (.ireturn, 1) := by decide +kernel
set_option maxRecDepth 20000 in
theorem ggX0_findOrbits_X0_setCount : GoodIn wsX0_findOrbits wsX0_setCount := goodIn_r _ [8, 9, 45, 46, 47, 48, 49, 50, 51, 52, 53, 54, 55, 56, 57] (by decide +kernel) (by decide +kernel)
set_option maxRecDepth 20000 in
theorem gX0_findOrbits_X0_setCount : GoodIn wsX0_findOrbits (wsV RX0 63 RX0 yX0_setCount wsX0_setCount) := goodIn_app (goodIn_of _ (by decide +kernel)) ggX0_findOrbits_X0_setCount
set_option maxRecDepth 20000 in
theorem ggX0_findOrbits_X0_isHeap : GoodIn wsX0_findOrbits wsX0_isHeap := goodIn_r _ [13, 9, 14, 15, 16, 17, 7, 18, 4, 5, 6, 8, 19, 20, 21, 45, 46, 47, 48, 49, 50, 51, 52, 53, 54, 55, 56, 57] (by decide +kernel) (by decide +kernel)
set_option maxRecDepth 20000 in
theorem gX0_findOrbits_X0_isHeap : GoodIn wsX0_findOrbits (wsV RX0 60 RX0 yX0_isHeap wsX0_isHeap) := goodIn_app (goodIn_of _ (by decide +kernel)) ggX0_findOrbits_X0_isHeap
set_option maxRecDepth 20000 in
theorem ggX0_findOrbits_X0_walkOrbit : GoodIn wsX0_findOrbits wsX0_walkOrbit := goodIn_r _ [25, 1, 26, 27, 28, 7, 29, 30, 31, 32, 33, 9, 14, 19, 20, 21, 34, 35, 36, 37, 38, 39, 40, 41, 42, 43, 44, 45, 46, 47, 48, 49, 50, 51, 52, 53, 54, 55, 56, 57] (by decide +kernel) (by decide +kernel)
set_option maxRecDepth 20000 in
theorem gX0_findOrbits_X0_walkOrbit : GoodIn wsX0_findOrbits (wsV RX0 80 RX0 yX0_walkOrbit wsX0_walkOrbit) := goodIn_app (goodIn_of _ (by decide +kernel)) ggX0_findOrbits_X0_walkOrbit
theorem dX0_findOrbits_0 : decode cX0_findOrbits 0 = .ok (.iconst 0, 1) := by decide +kernel
theorem dX0_findOrbits_1 : decode cX0_findOrbits 1 = .ok (.istore_n 2, 1) := by decide +kernel
theorem dX0_findOrbits_2 : decode cX0_findOrbits 2 = .ok (.iload_n 2, 1) := by decide +kernel
theorem dX0_findOrbits_3 : decode cX0_findOrbits 3 = .ok (.aload_n 0, 1) := by decide +kernel
theorem dX0_findOrbits_4 : decode cX0_findOrbits 4 = .ok (.invokevirtual 63, 3) := by decide +kernel
theorem dX0_findOrbits_7 : decode cX0_findOrbits 7 = .ok (.if_icmp .ge 28, 3) := by decide +kernel
theorem dX0_findOrbits_10 : decode cX0_findOrbits 10 = .ok (.aload_n 0, 1) := by decide +kernel
theorem dX0_findOrbits_11 : decode cX0_findOrbits 11 = .ok (.getfield 41, 3) := by decide +kernel
theorem dX0_findOrbits_14 : decode cX0_findOrbits 14 = .ok (.iload_n 2, 1) := by decide +kernel
theorem dX0_findOrbits_15 : decode cX0_findOrbits 15 = .ok (.aload_n 0, 1) := by decide +kernel
theorem dX0_findOrbits_16 : decode cX0_findOrbits 16 = .ok (.iload_n 2, 1) := by decide +kernel
theorem dX0_findOrbits_17 : decode cX0_findOrbits 17 = .ok (.invokevirtual 60, 3) := by decide +kernel
theorem dX0_findOrbits_20 : decode cX0_findOrbits 20 = .ok (.ifCond .ne 7, 3) := by decide +kernel
theorem dX0_findOrbits_23 : decode cX0_findOrbits 23 = .ok (.iconst 1, 1) := by decide +kernel
theorem dX0_findOrbits_24 : decode cX0_findOrbits 24 = .ok (.goto 4, 3) := by decide +kernel
theorem dX0_findOrbits_27 : decode cX0_findOrbits 27 = .ok (.iconst 0, 1) := by decide +kernel
theorem dX0_findOrbits_28 : decode cX0_findOrbits 28 = .ok (.bastore, 1) := by decide +kernel
theorem dX0_findOrbits_29 : decode cX0_findOrbits 29 = .ok (.iinc 2 1, 3) := by decide +kernel
theorem dX0_findOrbits_32 : decode cX0_findOrbits 32 = .ok (.goto (-30), 3) := by decide +kernel
theorem dX0_findOrbits_35 : decode cX0_findOrbits 35 = .ok (.iconst 0, 1) := by decide +kernel
theorem dX0_findOrbits_36 : decode cX0_findOrbits 36 = .ok (.istore_n 2, 1) := by decide +kernel
theorem dX0_findOrbits_37 : decode cX0_findOrbits 37 = .ok (.iconst 0, 1) := by decide +kernel
theorem dX0_findOrbits_38 : decode cX0_findOrbits 38 = .ok (.istore_n 3, 1) := by decide +kernel
theorem dX0_findOrbits_39 : decode cX0_findOrbits 39 = .ok (.iload_n 3, 1) := by decide +kernel
theorem dX0_findOrbits_40 : decode cX0_findOrbits 40 = .ok (.aload_n 0, 1) := by decide +kernel
theorem dX0_findOrbits_41 : decode cX0_findOrbits 41 = .ok (.invokevirtual 63, 3) := by decide +kernel
theorem dX0_findOrbits_44 : decode cX0_findOrbits 44 = .ok (.if_icmp .ge 40, 3) := by decide +kernel
theorem dX0_findOrbits_47 : decode cX0_findOrbits 47 = .ok (.aload_n 0, 1) := by decide +kernel
theorem dX0_findOrbits_48 : decode cX0_findOrbits 48 = .ok (.getfield 41, 3) := by decide +kernel
theorem dX0_findOrbits_51 : decode cX0_findOrbits 51 = .ok (.iload_n 3, 1) := by decide +kernel
theorem dX0_findOrbits_52 : decode cX0_findOrbits 52 = .ok (.baload, 1) := by decide +kernel
theorem dX0_findOrbits_53 : decode cX0_findOrbits 53 = .ok (.ifCond .ne 25, 3) := by decide +kernel
theorem dX0_findOrbits_56 : decode cX0_findOrbits 56 = .ok (.aload_n 0, 1) := by decide +kernel
theorem dX0_findOrbits_57 : decode cX0_findOrbits 57 = .ok (.getfield 35, 3) := by decide +kernel
theorem dX0_findOrbits_60 : decode cX0_findOrbits 60 = .ok (.iload_n 2, 1) := by decide +kernel
theorem dX0_findOrbits_61 : decode cX0_findOrbits 61 = .ok (.iload_n 3, 1) := by decide +kernel
theorem dX0_findOrbits_62 : decode cX0_findOrbits 62 = .ok (.iastore, 1) := by decide +kernel
theorem dX0_findOrbits_63 : decode cX0_findOrbits 63 = .ok (.aload_n 0, 1) := by decide +kernel
theorem dX0_findOrbits_64 : decode cX0_findOrbits 64 = .ok (.getfield 38, 3) := by decide +kernel
theorem dX0_findOrbits_67 : decode cX0_findOrbits 67 = .ok (.iload_n 2, 1) := by decide +kernel
theorem dX0_findOrbits_68 : decode cX0_findOrbits 68 = .ok (.aload_n 0, 1) := by decide +kernel
theorem dX0_findOrbits_69 : decode cX0_findOrbits 69 = .ok (.iload_n 3, 1) := by decide +kernel
theorem dX0_findOrbits_70 : decode cX0_findOrbits 70 = .ok (.iload_n 1, 1) := by decide +kernel
theorem dX0_findOrbits_71 : decode cX0_findOrbits 71 = .ok (.invokevirtual 80, 3) := by decide +kernel
theorem dX0_findOrbits_74 : decode cX0_findOrbits 74 = .ok (.iastore, 1) := by decide +kernel
theorem dX0_findOrbits_75 : decode cX0_findOrbits 75 = .ok (.iinc 2 1, 3) := by decide +kernel
theorem dX0_findOrbits_78 : decode cX0_findOrbits 78 = .ok (.iinc 3 1, 3) := by decide +kernel
theorem dX0_findOrbits_81 : decode cX0_findOrbits 81 = .ok (.goto (-42), 3) := by decide +kernel
theorem dX0_findOrbits_84 : decode cX0_findOrbits 84 = .ok (.iload_n 2, 1) := by decide +kernel
theorem dX0_findOrbits_85 : decode cX0_findOrbits 85 = .ok (.ireturn, 1) := by decide +kernel
set_option maxRecDepth 20000 in
theorem ggX0_orderOf_X0_commonDivisor : GoodIn wsX0_orderOf wsX0_commonDivisor := goodIn_r _ [6, 7, 8, 9, 10] (by decide +kernel) (by decide +kernel)
set_option maxRecDepth 20000 in
theorem gX0_orderOf_X0_commonDivisor : GoodIn wsX0_orderOf (va_wsS RX0 115 yX0_commonDivisor wsX0_commonDivisor) := goodIn_app (goodIn_of _ (by decide +kernel)) ggX0_orderOf_X0_commonDivisor
theorem dX0_orderOf_0 : decode cX0_orderOf 0 = .ok (.iconst 1, 1) := by decide +kernel
theorem dX0_orderOf_1 : decode cX0_orderOf 1 = .ok (.istore_n 2, 1) := by decide +kernel
theorem dX0_orderOf_2 : decode cX0_orderOf 2 = .ok (.iconst 0, 1) := by decide +kernel
theorem dX0_orderOf_3 : decode cX0_orderOf 3 = .ok (.istore_n 3, 1) := by decide +kernel
theorem dX0_orderOf_4 : decode cX0_orderOf 4 = .ok (.iload_n 3, 1) := by decide +kernel
theorem dX0_orderOf_5 : decode cX0_orderOf 5 = .ok (.iload_n 1, 1) := by decide +kernel
theorem dX0_orderOf_6 : decode cX0_orderOf 6 = .ok (.if_icmp .ge 52, 3) := by decide +kernel
theorem dX0_orderOf_9 : decode cX0_orderOf 9 = .ok (.aload_n 0, 1) := by decide +kernel
theorem dX0_orderOf_10 : decode cX0_orderOf 10 = .ok (.getfield 38, 3) := by decide +kernel
theorem dX0_orderOf_13 : decode cX0_orderOf 13 = .ok (.iload_n 3, 1) := by decide +kernel
theorem dX0_orderOf_14 : decode cX0_orderOf 14 = .ok (.iaload, 1) := by decide +kernel
theorem dX0_orderOf_15 : decode cX0_orderOf 15 = .ok (.iload_n 2, 1) := by decide +kernel
theorem dX0_orderOf_16 : decode cX0_orderOf 16 = .ok (.aload_n 0, 1) := by decide +kernel
theorem dX0_orderOf_17 : decode cX0_orderOf 17 = .ok (.getfield 38, 3) := by decide +kernel
theorem dX0_orderOf_20 : decode cX0_orderOf 20 = .ok (.iload_n 3, 1) := by decide +kernel
theorem dX0_orderOf_21 : decode cX0_orderOf 21 = .ok (.iaload, 1) := by decide +kernel
theorem dX0_orderOf_22 : decode cX0_orderOf 22 = .ok (.invokestatic 115, 3) := by decide +kernel
theorem dX0_orderOf_25 : decode cX0_orderOf 25 = .ok (.idiv, 1) := by decide +kernel
theorem dX0_orderOf_26 : decode cX0_orderOf 26 = .ok (.istore 4, 2) := by decide +kernel
theorem dX0_orderOf_28 : decode cX0_orderOf 28 = .ok (.iload_n 2, 1) := by decide +kernel
theorem dX0_orderOf_29 : decode cX0_orderOf 29 = .ok (.i2l, 1) := by decide +kernel
theorem dX0_orderOf_30 : decode cX0_orderOf 30 = .ok (.iload 4, 2) := by decide +kernel
theorem dX0_orderOf_32 : decode cX0_orderOf 32 = .ok (.i2l, 1) := by decide +kernel
theorem dX0_orderOf_33 : decode cX0_orderOf 33 = .ok (.lmul, 1) := by decide +kernel
theorem dX0_orderOf_34 : decode cX0_orderOf 34 = .ok (.lstore 5, 2) := by decide +kernel
theorem dX0_orderOf_36 : decode cX0_orderOf 36 = .ok (.lload 5, 2) := by decide +kernel
theorem dX0_orderOf_38 : decode cX0_orderOf 38 = .ok (.ldc2_w 158, 3) := by decide +kernel
theorem dX0_orderOf_41 : decode cX0_orderOf 41 = .ok (.lcmp, 1) := by decide +kernel
theorem dX0_orderOf_42 : decode cX0_orderOf 42 = .ok (.ifCond .le 6, 3) := by decide +kernel
theorem dX0_orderOf_45 : decode cX0_orderOf 45 = .ok (.bipush (-9), 2) := by decide +kernel
theorem dX0_orderOf_47 : decode cX0_orderOf 47 = .ok (.ireturn, 1) := by decide +kernel
theorem dX0_orderOf_48 : decode cX0_orderOf 48 = .ok (.lload 5, 2) := by decide +kernel
theorem dX0_orderOf_50 : decode cX0_orderOf 50 = .ok (.l2i, 1) := by decide +kernel
theorem dX0_orderOf_51 : decode cX0_orderOf 51 = .ok (.istore_n 2, 1) := by decide +kernel
theorem dX0_orderOf_52 : decode cX0_orderOf 52 = .ok (.iinc 3 1, 3) := by decide +kernel
theorem dX0_orderOf_55 : decode cX0_orderOf 55 = .ok (.goto (-51), 3) := by decide +kernel
theorem dX0_orderOf_58 : decode cX0_orderOf 58 = .ok (.iload_n 2, 1) := by decide +kernel
theorem dX0_orderOf_59 : decode cX0_orderOf 59 = .ok (.ireturn, 1) := by decide +kernel
theorem dX0_longestOf_0 : decode cX0_longestOf 0 = .ok (.iconst 0, 1) := by decide +kernel
theorem dX0_longestOf_1 : decode cX0_longestOf 1 = .ok (.istore_n 2, 1) := by decide +kernel
theorem dX0_longestOf_2 : decode cX0_longestOf 2 = .ok (.iconst 0, 1) := by decide +kernel
theorem dX0_longestOf_3 : decode cX0_longestOf 3 = .ok (.istore_n 3, 1) := by decide +kernel
theorem dX0_longestOf_4 : decode cX0_longestOf 4 = .ok (.iload_n 3, 1) := by decide +kernel
theorem dX0_longestOf_5 : decode cX0_longestOf 5 = .ok (.iload_n 1, 1) := by decide +kernel
theorem dX0_longestOf_6 : decode cX0_longestOf 6 = .ok (.if_icmp .ge 20, 3) := by decide +kernel
theorem dX0_longestOf_9 : decode cX0_longestOf 9 = .ok (.iload_n 2, 1) := by decide +kernel
theorem dX0_longestOf_10 : decode cX0_longestOf 10 = .ok (.aload_n 0, 1) := by decide +kernel
theorem dX0_longestOf_11 : decode cX0_longestOf 11 = .ok (.getfield 38, 3) := by decide +kernel
theorem dX0_longestOf_14 : decode cX0_longestOf 14 = .ok (.iload_n 3, 1) := by decide +kernel
theorem dX0_longestOf_15 : decode cX0_longestOf 15 = .ok (.iaload, 1) := by decide +kernel
theorem dX0_longestOf_16 : decode cX0_longestOf 16 = .ok (.invokestatic 160, 3) := by decide +kernel
theorem dX0_longestOf_19 : decode cX0_longestOf 19 = .ok (.istore_n 2, 1) := by decide +kernel
theorem dX0_longestOf_20 : decode cX0_longestOf 20 = .ok (.iinc 3 1, 3) := by decide +kernel
theorem dX0_longestOf_23 : decode cX0_longestOf 23 = .ok (.goto (-19), 3) := by decide +kernel
theorem dX0_longestOf_26 : decode cX0_longestOf 26 = .ok (.iload_n 2, 1) := by decide +kernel
theorem dX0_longestOf_27 : decode cX0_longestOf 27 = .ok (.ireturn, 1) := by decide +kernel
theorem dX0_commonDivisor_0 : decode cX0_commonDivisor 0 = .ok (.iload_n 0, 1) := by decide +kernel
theorem dX0_commonDivisor_1 : decode cX0_commonDivisor 1 = .ok (.istore_n 2, 1) := by decide +kernel
theorem dX0_commonDivisor_2 : decode cX0_commonDivisor 2 = .ok (.iload_n 1, 1) := by decide +kernel
theorem dX0_commonDivisor_3 : decode cX0_commonDivisor 3 = .ok (.istore_n 3, 1) := by decide +kernel
theorem dX0_commonDivisor_4 : decode cX0_commonDivisor 4 = .ok (.iconst 0, 1) := by decide +kernel
theorem dX0_commonDivisor_5 : decode cX0_commonDivisor 5 = .ok (.istore 4, 2) := by decide +kernel
theorem dX0_commonDivisor_7 : decode cX0_commonDivisor 7 = .ok (.iload 4, 2) := by decide +kernel
theorem dX0_commonDivisor_9 : decode cX0_commonDivisor 9 = .ok (.bipush 100, 2) := by decide +kernel
theorem dX0_commonDivisor_11 : decode cX0_commonDivisor 11 = .ok (.if_icmp .ge 23, 3) := by decide +kernel
theorem dX0_commonDivisor_14 : decode cX0_commonDivisor 14 = .ok (.iload_n 3, 1) := by decide +kernel
theorem dX0_commonDivisor_15 : decode cX0_commonDivisor 15 = .ok (.ifCond .eq 19, 3) := by decide +kernel
theorem dX0_commonDivisor_18 : decode cX0_commonDivisor 18 = .ok (.iload_n 2, 1) := by decide +kernel
theorem dX0_commonDivisor_19 : decode cX0_commonDivisor 19 = .ok (.iload_n 3, 1) := by decide +kernel
theorem dX0_commonDivisor_20 : decode cX0_commonDivisor 20 = .ok (.irem, 1) := by decide +kernel
theorem dX0_commonDivisor_21 : decode cX0_commonDivisor 21 = .ok (.istore 5, 2) := by decide +kernel
theorem dX0_commonDivisor_23 : decode cX0_commonDivisor 23 = .ok (.iload_n 3, 1) := by decide +kernel
theorem dX0_commonDivisor_24 : decode cX0_commonDivisor 24 = .ok (.istore_n 2, 1) := by decide +kernel
theorem dX0_commonDivisor_25 : decode cX0_commonDivisor 25 = .ok (.iload 5, 2) := by decide +kernel
theorem dX0_commonDivisor_27 : decode cX0_commonDivisor 27 = .ok (.istore_n 3, 1) := by decide +kernel
theorem dX0_commonDivisor_28 : decode cX0_commonDivisor 28 = .ok (.iinc 4 1, 3) := by decide +kernel
theorem dX0_commonDivisor_31 : decode cX0_commonDivisor 31 = .ok (.goto (-24), 3) := by decide +kernel
theorem dX0_commonDivisor_34 : decode cX0_commonDivisor 34 = .ok (.iconst 1, 1) := by decide +kernel
theorem dX0_commonDivisor_35 : decode cX0_commonDivisor 35 = .ok (.iload_n 2, 1) := by decide +kernel
theorem dX0_commonDivisor_36 : decode cX0_commonDivisor 36 = .ok (.invokestatic 160, 3) := by decide +kernel
theorem dX0_commonDivisor_39 : decode cX0_commonDivisor 39 = .ok (.ireturn, 1) := by decide +kernel
theorem dX0_traceOf_0 : decode cX0_traceOf 0 = .ok (.iconst 1, 1) := by decide +kernel
theorem dX0_traceOf_1 : decode cX0_traceOf 1 = .ok (.istore_n 1, 1) := by decide +kernel
theorem dX0_traceOf_2 : decode cX0_traceOf 2 = .ok (.iload_n 0, 1) := by decide +kernel
theorem dX0_traceOf_3 : decode cX0_traceOf 3 = .ok (.iconst 1, 1) := by decide +kernel
theorem dX0_traceOf_4 : decode cX0_traceOf 4 = .ok (.if_icmp .lt 6, 3) := by decide +kernel
theorem dX0_traceOf_7 : decode cX0_traceOf 7 = .ok (.iinc 1 10, 3) := by decide +kernel
theorem dX0_traceOf_10 : decode cX0_traceOf 10 = .ok (.iload_n 0, 1) := by decide +kernel
theorem dX0_traceOf_11 : decode cX0_traceOf 11 = .ok (.iconst 2, 1) := by decide +kernel
theorem dX0_traceOf_12 : decode cX0_traceOf 12 = .ok (.if_icmp .lt 6, 3) := by decide +kernel
theorem dX0_traceOf_15 : decode cX0_traceOf 15 = .ok (.iinc 1 100, 3) := by decide +kernel
theorem dX0_traceOf_18 : decode cX0_traceOf 18 = .ok (.iload_n 1, 1) := by decide +kernel
theorem dX0_traceOf_19 : decode cX0_traceOf 19 = .ok (.ireturn, 1) := by decide +kernel
set_option maxRecDepth 20000 in
theorem ggX0_measured_X0_edged : GoodIn wsX0_measured wsX0_edged := goodIn_r _ [5, 6, 7, 8, 9, 10, 4, 11, 12, 13, 14, 15, 16, 17, 18, 19, 20, 21, 22, 23, 24, 25, 26, 27, 28, 29, 30, 31, 32, 33, 34, 35] (by decide +kernel) (by decide +kernel)
set_option maxRecDepth 20000 in
theorem gX0_measured_X0_edged : GoodIn wsX0_measured (wsV RX0 163 RX0 yX0_edged wsX0_edged) := goodIn_app (goodIn_of _ (by decide +kernel)) ggX0_measured_X0_edged
set_option maxRecDepth 20000 in
theorem ggX0_measured_X0_weighed : GoodIn wsX0_measured wsX0_weighed := goodIn_r _ [11, 6, 12, 13, 14, 15, 16, 17, 18, 19, 20, 21, 4, 22, 23, 24, 25, 26, 27, 28, 29, 30, 31, 32, 33, 34, 35] (by decide +kernel) (by decide +kernel)
set_option maxRecDepth 20000 in
theorem gX0_measured_X0_weighed : GoodIn wsX0_measured (wsV RX0 166 RX0 yX0_weighed wsX0_weighed) := goodIn_app (goodIn_of _ (by decide +kernel)) ggX0_measured_X0_weighed
set_option maxRecDepth 20000 in
theorem ggX0_measured_J6_bitCount_0f7a4 : GoodIn wsX0_measured wsJ6_bitCount_0f7a4 := goodIn_r _ [16, 17, 18, 19] (by decide +kernel) (by decide +kernel)
set_option maxRecDepth 20000 in
theorem gX0_measured_J6_bitCount_0f7a4 : GoodIn wsX0_measured (va_wsS RX0 153 yJ6_bitCount_0f7a4 wsJ6_bitCount_0f7a4) := goodIn_app (goodIn_of _ (by decide +kernel)) ggX0_measured_J6_bitCount_0f7a4
theorem dX0_measured_0 : decode cX0_measured 0 = .ok (.iload_n 1, 1) := by decide +kernel
theorem dX0_measured_1 : decode cX0_measured 1 = .ok (.iconst 2, 1) := by decide +kernel
theorem dX0_measured_2 : decode cX0_measured 2 = .ok (.if_icmp .ne 9, 3) := by decide +kernel
theorem dX0_measured_5 : decode cX0_measured 5 = .ok (.aload_n 0, 1) := by decide +kernel
theorem dX0_measured_6 : decode cX0_measured 6 = .ok (.iload_n 2, 1) := by decide +kernel
theorem dX0_measured_7 : decode cX0_measured 7 = .ok (.invokevirtual 163, 3) := by decide +kernel
theorem dX0_measured_10 : decode cX0_measured 10 = .ok (.ireturn, 1) := by decide +kernel
theorem dX0_measured_11 : decode cX0_measured 11 = .ok (.iload_n 1, 1) := by decide +kernel
theorem dX0_measured_12 : decode cX0_measured 12 = .ok (.iconst 1, 1) := by decide +kernel
theorem dX0_measured_13 : decode cX0_measured 13 = .ok (.if_icmp .ne 11, 3) := by decide +kernel
theorem dX0_measured_16 : decode cX0_measured 16 = .ok (.aload_n 0, 1) := by decide +kernel
theorem dX0_measured_17 : decode cX0_measured 17 = .ok (.iload_n 2, 1) := by decide +kernel
theorem dX0_measured_18 : decode cX0_measured 18 = .ok (.invokevirtual 166, 3) := by decide +kernel
theorem dX0_measured_21 : decode cX0_measured 21 = .ok (.goto 7, 3) := by decide +kernel
theorem dX0_measured_24 : decode cX0_measured 24 = .ok (.iload_n 2, 1) := by decide +kernel
theorem dX0_measured_25 : decode cX0_measured 25 = .ok (.invokestatic 153, 3) := by decide +kernel
theorem dX0_measured_28 : decode cX0_measured 28 = .ok (.ireturn, 1) := by decide +kernel
set_option maxRecDepth 20000 in
theorem ggX0_weighed_J6_bitCount_0f7a4 : GoodIn wsX0_weighed wsJ6_bitCount_0f7a4 := goodIn_r _ [6, 7, 8, 9] (by decide +kernel) (by decide +kernel)
set_option maxRecDepth 20000 in
theorem gX0_weighed_J6_bitCount_0f7a4 : GoodIn wsX0_weighed (va_wsS RX0 153 yJ6_bitCount_0f7a4 wsJ6_bitCount_0f7a4) := goodIn_app (goodIn_of _ (by decide +kernel)) ggX0_weighed_J6_bitCount_0f7a4
set_option maxRecDepth 20000 in
theorem ggX0_weighed_X0_has : GoodIn wsX0_weighed wsX0_has := goodIn_r _ [13] (by decide +kernel) (by decide +kernel)
set_option maxRecDepth 20000 in
theorem gX0_weighed_X0_has : GoodIn wsX0_weighed (va_wsS RX0 52 yX0_has wsX0_has) := goodIn_app (goodIn_of _ (by decide +kernel)) ggX0_weighed_X0_has
theorem dX0_weighed_0 : decode cX0_weighed 0 = .ok (.iload_n 1, 1) := by decide +kernel
theorem dX0_weighed_1 : decode cX0_weighed 1 = .ok (.invokestatic 153, 3) := by decide +kernel
theorem dX0_weighed_4 : decode cX0_weighed 4 = .ok (.istore_n 2, 1) := by decide +kernel
theorem dX0_weighed_5 : decode cX0_weighed 5 = .ok (.iconst 0, 1) := by decide +kernel
theorem dX0_weighed_6 : decode cX0_weighed 6 = .ok (.istore_n 3, 1) := by decide +kernel
theorem dX0_weighed_7 : decode cX0_weighed 7 = .ok (.iload_n 3, 1) := by decide +kernel
theorem dX0_weighed_8 : decode cX0_weighed 8 = .ok (.aload_n 0, 1) := by decide +kernel
theorem dX0_weighed_9 : decode cX0_weighed 9 = .ok (.getfield 9, 3) := by decide +kernel
theorem dX0_weighed_12 : decode cX0_weighed 12 = .ok (.if_icmp .ge 26, 3) := by decide +kernel
theorem dX0_weighed_15 : decode cX0_weighed 15 = .ok (.iload_n 1, 1) := by decide +kernel
theorem dX0_weighed_16 : decode cX0_weighed 16 = .ok (.iload_n 3, 1) := by decide +kernel
theorem dX0_weighed_17 : decode cX0_weighed 17 = .ok (.invokestatic 52, 3) := by decide +kernel
theorem dX0_weighed_20 : decode cX0_weighed 20 = .ok (.ifCond .eq 12, 3) := by decide +kernel
theorem dX0_weighed_23 : decode cX0_weighed 23 = .ok (.iload_n 2, 1) := by decide +kernel
theorem dX0_weighed_24 : decode cX0_weighed 24 = .ok (.aload_n 0, 1) := by decide +kernel
theorem dX0_weighed_25 : decode cX0_weighed 25 = .ok (.getfield 20, 3) := by decide +kernel
theorem dX0_weighed_28 : decode cX0_weighed 28 = .ok (.iload_n 3, 1) := by decide +kernel
theorem dX0_weighed_29 : decode cX0_weighed 29 = .ok (.iaload, 1) := by decide +kernel
theorem dX0_weighed_30 : decode cX0_weighed 30 = .ok (.iadd, 1) := by decide +kernel
theorem dX0_weighed_31 : decode cX0_weighed 31 = .ok (.istore_n 2, 1) := by decide +kernel
theorem dX0_weighed_32 : decode cX0_weighed 32 = .ok (.iinc 3 1, 3) := by decide +kernel
theorem dX0_weighed_35 : decode cX0_weighed 35 = .ok (.goto (-28), 3) := by decide +kernel
theorem dX0_weighed_38 : decode cX0_weighed 38 = .ok (.iload_n 2, 1) := by decide +kernel
theorem dX0_weighed_39 : decode cX0_weighed 39 = .ok (.ireturn, 1) := by decide +kernel
set_option maxRecDepth 20000 in
theorem ggX0_edged_X0_weighed : GoodIn wsX0_edged wsX0_weighed := goodIn_r _ [7, 1, 8, 9, 10, 11, 12, 13, 14, 15, 16, 17, 6, 18, 19, 20, 21, 22, 23, 24, 25, 26, 27, 28, 29, 30, 31] (by decide +kernel) (by decide +kernel)
set_option maxRecDepth 20000 in
theorem gX0_edged_X0_weighed : GoodIn wsX0_edged (wsV RX0 166 RX0 yX0_weighed wsX0_weighed) := goodIn_app (goodIn_of _ (by decide +kernel)) ggX0_edged_X0_weighed
set_option maxRecDepth 20000 in
theorem ggX0_edged_X0_has : GoodIn wsX0_edged wsX0_has := goodIn_r _ [18] (by decide +kernel) (by decide +kernel)
set_option maxRecDepth 20000 in
theorem gX0_edged_X0_has : GoodIn wsX0_edged (va_wsS RX0 52 yX0_has wsX0_has) := goodIn_app (goodIn_of _ (by decide +kernel)) ggX0_edged_X0_has
theorem dX0_edged_0 : decode cX0_edged 0 = .ok (.aload_n 0, 1) := by decide +kernel
theorem dX0_edged_1 : decode cX0_edged 1 = .ok (.iload_n 1, 1) := by decide +kernel
theorem dX0_edged_2 : decode cX0_edged 2 = .ok (.invokevirtual 166, 3) := by decide +kernel
theorem dX0_edged_5 : decode cX0_edged 5 = .ok (.istore_n 2, 1) := by decide +kernel
theorem dX0_edged_6 : decode cX0_edged 6 = .ok (.iconst 0, 1) := by decide +kernel
theorem dX0_edged_7 : decode cX0_edged 7 = .ok (.istore_n 3, 1) := by decide +kernel
theorem dX0_edged_8 : decode cX0_edged 8 = .ok (.iload_n 3, 1) := by decide +kernel
theorem dX0_edged_9 : decode cX0_edged 9 = .ok (.aload_n 0, 1) := by decide +kernel
theorem dX0_edged_10 : decode cX0_edged 10 = .ok (.getfield 9, 3) := by decide +kernel
theorem dX0_edged_13 : decode cX0_edged 13 = .ok (.if_icmp .ge 31, 3) := by decide +kernel
theorem dX0_edged_16 : decode cX0_edged 16 = .ok (.iload_n 1, 1) := by decide +kernel
theorem dX0_edged_17 : decode cX0_edged 17 = .ok (.iload_n 3, 1) := by decide +kernel
theorem dX0_edged_18 : decode cX0_edged 18 = .ok (.invokestatic 52, 3) := by decide +kernel
theorem dX0_edged_21 : decode cX0_edged 21 = .ok (.ifCond .eq 17, 3) := by decide +kernel
theorem dX0_edged_24 : decode cX0_edged 24 = .ok (.aload_n 0, 1) := by decide +kernel
theorem dX0_edged_25 : decode cX0_edged 25 = .ok (.getfield 17, 3) := by decide +kernel
theorem dX0_edged_28 : decode cX0_edged 28 = .ok (.iload_n 3, 1) := by decide +kernel
theorem dX0_edged_29 : decode cX0_edged 29 = .ok (.iaload, 1) := by decide +kernel
theorem dX0_edged_30 : decode cX0_edged 30 = .ok (.iload_n 1, 1) := by decide +kernel
theorem dX0_edged_31 : decode cX0_edged 31 = .ok (.iand, 1) := by decide +kernel
theorem dX0_edged_32 : decode cX0_edged 32 = .ok (.ifCond .ne 6, 3) := by decide +kernel
theorem dX0_edged_35 : decode cX0_edged 35 = .ok (.iinc 2 1, 3) := by decide +kernel
theorem dX0_edged_38 : decode cX0_edged 38 = .ok (.iinc 3 1, 3) := by decide +kernel
theorem dX0_edged_41 : decode cX0_edged 41 = .ok (.goto (-33), 3) := by decide +kernel
theorem dX0_edged_44 : decode cX0_edged 44 = .ok (.iload_n 2, 1) := by decide +kernel
theorem dX0_edged_45 : decode cX0_edged 45 = .ok (.ireturn, 1) := by decide +kernel
set_option maxRecDepth 20000 in
theorem ggX0_sumOfOrbit_X0_measured : GoodIn wsX0_sumOfOrbit wsX0_measured := goodIn_r _ [5, 6, 7, 8, 4, 9, 10, 11, 12, 13, 14, 15, 16, 17, 18, 19, 20, 21, 22, 23, 24, 25, 26, 46, 47, 48, 49, 50, 51, 52, 53, 54, 55, 56, 57, 58] (by decide +kernel) (by decide +kernel)
set_option maxRecDepth 20000 in
theorem gX0_sumOfOrbit_X0_measured : GoodIn wsX0_sumOfOrbit (wsV RX0 103 RX0 yX0_measured wsX0_measured) := goodIn_app (goodIn_of _ (by decide +kernel)) ggX0_sumOfOrbit_X0_measured
set_option maxRecDepth 20000 in
theorem ggX0_sumOfOrbit_X0_turned : GoodIn wsX0_sumOfOrbit wsX0_turned := goodIn_r _ [30, 31, 32, 33, 4, 34, 10, 35, 24, 25, 26, 36, 37, 38, 39, 40, 41, 42, 43, 44, 45, 11, 46, 47, 48, 49, 50, 51, 52, 53, 54, 55, 56, 57, 58] (by decide +kernel) (by decide +kernel)
set_option maxRecDepth 20000 in
theorem gX0_sumOfOrbit_X0_turned : GoodIn wsX0_sumOfOrbit (wsV RX0 77 RX0 yX0_turned wsX0_turned) := goodIn_app (goodIn_of _ (by decide +kernel)) ggX0_sumOfOrbit_X0_turned
theorem dX0_sumOfOrbit_0 : decode cX0_sumOfOrbit 0 = .ok (.iconst 0, 1) := by decide +kernel
theorem dX0_sumOfOrbit_1 : decode cX0_sumOfOrbit 1 = .ok (.istore 5, 2) := by decide +kernel
theorem dX0_sumOfOrbit_3 : decode cX0_sumOfOrbit 3 = .ok (.iload_n 1, 1) := by decide +kernel
theorem dX0_sumOfOrbit_4 : decode cX0_sumOfOrbit 4 = .ok (.istore 6, 2) := by decide +kernel
theorem dX0_sumOfOrbit_6 : decode cX0_sumOfOrbit 6 = .ok (.iconst 0, 1) := by decide +kernel
theorem dX0_sumOfOrbit_7 : decode cX0_sumOfOrbit 7 = .ok (.istore 7, 2) := by decide +kernel
theorem dX0_sumOfOrbit_9 : decode cX0_sumOfOrbit 9 = .ok (.iload 7, 2) := by decide +kernel
theorem dX0_sumOfOrbit_11 : decode cX0_sumOfOrbit 11 = .ok (.iload_n 2, 1) := by decide +kernel
theorem dX0_sumOfOrbit_12 : decode cX0_sumOfOrbit 12 = .ok (.if_icmp .ge 31, 3) := by decide +kernel
theorem dX0_sumOfOrbit_15 : decode cX0_sumOfOrbit 15 = .ok (.iload 5, 2) := by decide +kernel
theorem dX0_sumOfOrbit_17 : decode cX0_sumOfOrbit 17 = .ok (.aload_n 0, 1) := by decide +kernel
theorem dX0_sumOfOrbit_18 : decode cX0_sumOfOrbit 18 = .ok (.iload 4, 2) := by decide +kernel
theorem dX0_sumOfOrbit_20 : decode cX0_sumOfOrbit 20 = .ok (.iload 6, 2) := by decide +kernel
theorem dX0_sumOfOrbit_22 : decode cX0_sumOfOrbit 22 = .ok (.invokevirtual 103, 3) := by decide +kernel
theorem dX0_sumOfOrbit_25 : decode cX0_sumOfOrbit 25 = .ok (.iadd, 1) := by decide +kernel
theorem dX0_sumOfOrbit_26 : decode cX0_sumOfOrbit 26 = .ok (.istore 5, 2) := by decide +kernel
theorem dX0_sumOfOrbit_28 : decode cX0_sumOfOrbit 28 = .ok (.aload_n 0, 1) := by decide +kernel
theorem dX0_sumOfOrbit_29 : decode cX0_sumOfOrbit 29 = .ok (.iload 6, 2) := by decide +kernel
theorem dX0_sumOfOrbit_31 : decode cX0_sumOfOrbit 31 = .ok (.iload_n 3, 1) := by decide +kernel
theorem dX0_sumOfOrbit_32 : decode cX0_sumOfOrbit 32 = .ok (.invokevirtual 77, 3) := by decide +kernel
theorem dX0_sumOfOrbit_35 : decode cX0_sumOfOrbit 35 = .ok (.istore 6, 2) := by decide +kernel
theorem dX0_sumOfOrbit_37 : decode cX0_sumOfOrbit 37 = .ok (.iinc 7 1, 3) := by decide +kernel
theorem dX0_sumOfOrbit_40 : decode cX0_sumOfOrbit 40 = .ok (.goto (-31), 3) := by decide +kernel
theorem dX0_sumOfOrbit_43 : decode cX0_sumOfOrbit 43 = .ok (.iload 5, 2) := by decide +kernel
theorem dX0_sumOfOrbit_45 : decode cX0_sumOfOrbit 45 = .ok (.ireturn, 1) := by decide +kernel
set_option maxRecDepth 20000 in
theorem ggX0_extendRows_X0_setCount : GoodIn wsX0_extendRows wsX0_setCount := goodIn_r _ [7, 1, 20, 21, 22, 23, 24, 25, 26, 27, 28, 29, 30, 31, 32] (by decide +kernel) (by decide +kernel)
set_option maxRecDepth 20000 in
theorem gX0_extendRows_X0_setCount : GoodIn wsX0_extendRows (wsV RX0 63 RX0 yX0_setCount wsX0_setCount) := goodIn_app (goodIn_of _ (by decide +kernel)) ggX0_extendRows_X0_setCount
set_option maxRecDepth 20000 in
theorem ggX0_extendRows_X0_has : GoodIn wsX0_extendRows wsX0_has := goodIn_r _ [10] (by decide +kernel) (by decide +kernel)
set_option maxRecDepth 20000 in
theorem gX0_extendRows_X0_has : GoodIn wsX0_extendRows (va_wsS RX0 52 yX0_has wsX0_has) := goodIn_app (goodIn_of _ (by decide +kernel)) ggX0_extendRows_X0_has
set_option maxRecDepth 20000 in
theorem ggX0_extendRows_X0_isHeap : GoodIn wsX0_extendRows wsX0_isHeap := goodIn_r _ [14, 1, 15, 16, 17, 18, 6, 19, 3, 4, 5, 7, 8, 9, 10, 20, 21, 22, 23, 24, 25, 26, 27, 28, 29, 30, 31, 32] (by decide +kernel) (by decide +kernel)
set_option maxRecDepth 20000 in
theorem gX0_extendRows_X0_isHeap : GoodIn wsX0_extendRows (wsV RX0 60 RX0 yX0_isHeap wsX0_isHeap) := goodIn_app (goodIn_of _ (by decide +kernel)) ggX0_extendRows_X0_isHeap
theorem dX0_extendRows_0 : decode cX0_extendRows 0 = .ok (.iconst 0, 1) := by decide +kernel
theorem dX0_extendRows_1 : decode cX0_extendRows 1 = .ok (.istore_n 1, 1) := by decide +kernel
theorem dX0_extendRows_2 : decode cX0_extendRows 2 = .ok (.iload_n 1, 1) := by decide +kernel
theorem dX0_extendRows_3 : decode cX0_extendRows 3 = .ok (.aload_n 0, 1) := by decide +kernel
theorem dX0_extendRows_4 : decode cX0_extendRows 4 = .ok (.getfield 9, 3) := by decide +kernel
theorem dX0_extendRows_7 : decode cX0_extendRows 7 = .ok (.if_icmp .ge 52, 3) := by decide +kernel
theorem dX0_extendRows_10 : decode cX0_extendRows 10 = .ok (.iconst 0, 1) := by decide +kernel
theorem dX0_extendRows_11 : decode cX0_extendRows 11 = .ok (.istore_n 2, 1) := by decide +kernel
theorem dX0_extendRows_12 : decode cX0_extendRows 12 = .ok (.iload_n 2, 1) := by decide +kernel
theorem dX0_extendRows_13 : decode cX0_extendRows 13 = .ok (.aload_n 0, 1) := by decide +kernel
theorem dX0_extendRows_14 : decode cX0_extendRows 14 = .ok (.invokevirtual 63, 3) := by decide +kernel
theorem dX0_extendRows_17 : decode cX0_extendRows 17 = .ok (.if_icmp .ge 36, 3) := by decide +kernel
theorem dX0_extendRows_20 : decode cX0_extendRows 20 = .ok (.iload_n 2, 1) := by decide +kernel
theorem dX0_extendRows_21 : decode cX0_extendRows 21 = .ok (.iload_n 1, 1) := by decide +kernel
theorem dX0_extendRows_22 : decode cX0_extendRows 22 = .ok (.invokestatic 52, 3) := by decide +kernel
theorem dX0_extendRows_25 : decode cX0_extendRows 25 = .ok (.ifCond .eq 22, 3) := by decide +kernel
theorem dX0_extendRows_28 : decode cX0_extendRows 28 = .ok (.aload_n 0, 1) := by decide +kernel
theorem dX0_extendRows_29 : decode cX0_extendRows 29 = .ok (.getfield 32, 3) := by decide +kernel
theorem dX0_extendRows_32 : decode cX0_extendRows 32 = .ok (.iload_n 2, 1) := by decide +kernel
theorem dX0_extendRows_33 : decode cX0_extendRows 33 = .ok (.dup2, 1) := by decide +kernel
theorem dX0_extendRows_34 : decode cX0_extendRows 34 = .ok (.iaload, 1) := by decide +kernel
theorem dX0_extendRows_35 : decode cX0_extendRows 35 = .ok (.aload_n 0, 1) := by decide +kernel
theorem dX0_extendRows_36 : decode cX0_extendRows 36 = .ok (.getfield 32, 3) := by decide +kernel
theorem dX0_extendRows_39 : decode cX0_extendRows 39 = .ok (.iload_n 2, 1) := by decide +kernel
theorem dX0_extendRows_40 : decode cX0_extendRows 40 = .ok (.iconst 1, 1) := by decide +kernel
theorem dX0_extendRows_41 : decode cX0_extendRows 41 = .ok (.iload_n 1, 1) := by decide +kernel
theorem dX0_extendRows_42 : decode cX0_extendRows 42 = .ok (.ishl, 1) := by decide +kernel
theorem dX0_extendRows_43 : decode cX0_extendRows 43 = .ok (.ixor, 1) := by decide +kernel
theorem dX0_extendRows_44 : decode cX0_extendRows 44 = .ok (.iaload, 1) := by decide +kernel
theorem dX0_extendRows_45 : decode cX0_extendRows 45 = .ok (.iadd, 1) := by decide +kernel
theorem dX0_extendRows_46 : decode cX0_extendRows 46 = .ok (.iastore, 1) := by decide +kernel
theorem dX0_extendRows_47 : decode cX0_extendRows 47 = .ok (.iinc 2 1, 3) := by decide +kernel
theorem dX0_extendRows_50 : decode cX0_extendRows 50 = .ok (.goto (-38), 3) := by decide +kernel
theorem dX0_extendRows_53 : decode cX0_extendRows 53 = .ok (.iinc 1 1, 3) := by decide +kernel
theorem dX0_extendRows_56 : decode cX0_extendRows 56 = .ok (.goto (-54), 3) := by decide +kernel
theorem dX0_extendRows_59 : decode cX0_extendRows 59 = .ok (.iconst 0, 1) := by decide +kernel
theorem dX0_extendRows_60 : decode cX0_extendRows 60 = .ok (.istore_n 1, 1) := by decide +kernel
theorem dX0_extendRows_61 : decode cX0_extendRows 61 = .ok (.iload_n 1, 1) := by decide +kernel
theorem dX0_extendRows_62 : decode cX0_extendRows 62 = .ok (.aload_n 0, 1) := by decide +kernel
theorem dX0_extendRows_63 : decode cX0_extendRows 63 = .ok (.invokevirtual 63, 3) := by decide +kernel
theorem dX0_extendRows_66 : decode cX0_extendRows 66 = .ok (.if_icmp .ge 24, 3) := by decide +kernel
theorem dX0_extendRows_69 : decode cX0_extendRows 69 = .ok (.aload_n 0, 1) := by decide +kernel
theorem dX0_extendRows_70 : decode cX0_extendRows 70 = .ok (.iload_n 1, 1) := by decide +kernel
theorem dX0_extendRows_71 : decode cX0_extendRows 71 = .ok (.invokevirtual 60, 3) := by decide +kernel
theorem dX0_extendRows_74 : decode cX0_extendRows 74 = .ok (.ifCond .ne 10, 3) := by decide +kernel
theorem dX0_extendRows_77 : decode cX0_extendRows 77 = .ok (.aload_n 0, 1) := by decide +kernel
theorem dX0_extendRows_78 : decode cX0_extendRows 78 = .ok (.getfield 32, 3) := by decide +kernel
theorem dX0_extendRows_81 : decode cX0_extendRows 81 = .ok (.iload_n 1, 1) := by decide +kernel
theorem dX0_extendRows_82 : decode cX0_extendRows 82 = .ok (.iconst 0, 1) := by decide +kernel
theorem dX0_extendRows_83 : decode cX0_extendRows 83 = .ok (.iastore, 1) := by decide +kernel
theorem dX0_extendRows_84 : decode cX0_extendRows 84 = .ok (.iinc 1 1, 3) := by decide +kernel
theorem dX0_extendRows_87 : decode cX0_extendRows 87 = .ok (.goto (-26), 3) := by decide +kernel
theorem dX0_extendRows_90 : decode cX0_extendRows 90 = .ok (.return_, 1) := by decide +kernel
set_option maxRecDepth 20000 in
theorem ggX0_readFilling_X0_isHeight : GoodIn wsX0_readFilling wsX0_isHeight := goodIn_r _ [6] (by decide +kernel) (by decide +kernel)
set_option maxRecDepth 20000 in
theorem gX0_readFilling_X0_isHeight : GoodIn wsX0_readFilling (va_wsS RX0 118 yX0_isHeight wsX0_isHeight) := goodIn_app (goodIn_of _ (by decide +kernel)) ggX0_readFilling_X0_isHeight
set_option maxRecDepth 20000 in
theorem ggX0_readFilling_X0_digitsFallUpwards : GoodIn wsX0_readFilling wsX0_digitsFallUpwards := goodIn_r _ [10, 1, 11, 2, 12, 13, 5, 14, 15, 16, 17, 18, 19, 20, 21, 22, 23, 24, 25, 26, 27] (by decide +kernel) (by decide +kernel)
set_option maxRecDepth 20000 in
theorem gX0_readFilling_X0_digitsFallUpwards : GoodIn wsX0_readFilling (wsV RX0 169 RX0 yX0_digitsFallUpwards wsX0_digitsFallUpwards) := goodIn_app (goodIn_of _ (by decide +kernel)) ggX0_readFilling_X0_digitsFallUpwards
theorem dX0_readFilling_0 : decode cX0_readFilling 0 = .ok (.iload_n 1, 1) := by decide +kernel
theorem dX0_readFilling_1 : decode cX0_readFilling 1 = .ok (.invokestatic 118, 3) := by decide +kernel
theorem dX0_readFilling_4 : decode cX0_readFilling 4 = .ok (.ifCond .eq 7, 3) := by decide +kernel
theorem dX0_readFilling_7 : decode cX0_readFilling 7 = .ok (.iload_n 2, 1) := by decide +kernel
theorem dX0_readFilling_8 : decode cX0_readFilling 8 = .ok (.ifCond .ge 5, 3) := by decide +kernel
theorem dX0_readFilling_11 : decode cX0_readFilling 11 = .ok (.iconst 0, 1) := by decide +kernel
theorem dX0_readFilling_12 : decode cX0_readFilling 12 = .ok (.ireturn, 1) := by decide +kernel
theorem dX0_readFilling_13 : decode cX0_readFilling 13 = .ok (.iload_n 2, 1) := by decide +kernel
theorem dX0_readFilling_14 : decode cX0_readFilling 14 = .ok (.istore_n 3, 1) := by decide +kernel
theorem dX0_readFilling_15 : decode cX0_readFilling 15 = .ok (.iconst 0, 1) := by decide +kernel
theorem dX0_readFilling_16 : decode cX0_readFilling 16 = .ok (.istore 4, 2) := by decide +kernel
theorem dX0_readFilling_18 : decode cX0_readFilling 18 = .ok (.iload 4, 2) := by decide +kernel
theorem dX0_readFilling_20 : decode cX0_readFilling 20 = .ok (.aload_n 0, 1) := by decide +kernel
theorem dX0_readFilling_21 : decode cX0_readFilling 21 = .ok (.getfield 9, 3) := by decide +kernel
theorem dX0_readFilling_24 : decode cX0_readFilling 24 = .ok (.if_icmp .ge 27, 3) := by decide +kernel
theorem dX0_readFilling_27 : decode cX0_readFilling 27 = .ok (.aload_n 0, 1) := by decide +kernel
theorem dX0_readFilling_28 : decode cX0_readFilling 28 = .ok (.getfield 26, 3) := by decide +kernel
theorem dX0_readFilling_31 : decode cX0_readFilling 31 = .ok (.iload 4, 2) := by decide +kernel
theorem dX0_readFilling_33 : decode cX0_readFilling 33 = .ok (.iload_n 3, 1) := by decide +kernel
theorem dX0_readFilling_34 : decode cX0_readFilling 34 = .ok (.iload_n 1, 1) := by decide +kernel
theorem dX0_readFilling_35 : decode cX0_readFilling 35 = .ok (.iconst 1, 1) := by decide +kernel
theorem dX0_readFilling_36 : decode cX0_readFilling 36 = .ok (.iadd, 1) := by decide +kernel
theorem dX0_readFilling_37 : decode cX0_readFilling 37 = .ok (.irem, 1) := by decide +kernel
theorem dX0_readFilling_38 : decode cX0_readFilling 38 = .ok (.iastore, 1) := by decide +kernel
theorem dX0_readFilling_39 : decode cX0_readFilling 39 = .ok (.iload_n 3, 1) := by decide +kernel
theorem dX0_readFilling_40 : decode cX0_readFilling 40 = .ok (.iload_n 1, 1) := by decide +kernel
theorem dX0_readFilling_41 : decode cX0_readFilling 41 = .ok (.iconst 1, 1) := by decide +kernel
theorem dX0_readFilling_42 : decode cX0_readFilling 42 = .ok (.iadd, 1) := by decide +kernel
theorem dX0_readFilling_43 : decode cX0_readFilling 43 = .ok (.idiv, 1) := by decide +kernel
theorem dX0_readFilling_44 : decode cX0_readFilling 44 = .ok (.istore_n 3, 1) := by decide +kernel
theorem dX0_readFilling_45 : decode cX0_readFilling 45 = .ok (.iinc 4 1, 3) := by decide +kernel
theorem dX0_readFilling_48 : decode cX0_readFilling 48 = .ok (.goto (-30), 3) := by decide +kernel
theorem dX0_readFilling_51 : decode cX0_readFilling 51 = .ok (.iload_n 3, 1) := by decide +kernel
theorem dX0_readFilling_52 : decode cX0_readFilling 52 = .ok (.ifCond .ne 14, 3) := by decide +kernel
theorem dX0_readFilling_55 : decode cX0_readFilling 55 = .ok (.aload_n 0, 1) := by decide +kernel
theorem dX0_readFilling_56 : decode cX0_readFilling 56 = .ok (.invokevirtual 169, 3) := by decide +kernel
theorem dX0_readFilling_59 : decode cX0_readFilling 59 = .ok (.ifCond .eq 7, 3) := by decide +kernel
theorem dX0_readFilling_62 : decode cX0_readFilling 62 = .ok (.iconst 1, 1) := by decide +kernel
theorem dX0_readFilling_63 : decode cX0_readFilling 63 = .ok (.goto 4, 3) := by decide +kernel
theorem dX0_readFilling_66 : decode cX0_readFilling 66 = .ok (.iconst 0, 1) := by decide +kernel
theorem dX0_readFilling_67 : decode cX0_readFilling 67 = .ok (.ireturn, 1) := by decide +kernel
set_option maxRecDepth 20000 in
theorem ggX0_digitsFallUpwards_X0_has : GoodIn wsX0_digitsFallUpwards wsX0_has := goodIn_r _ [7] (by decide +kernel) (by decide +kernel)
set_option maxRecDepth 20000 in
theorem gX0_digitsFallUpwards_X0_has : GoodIn wsX0_digitsFallUpwards (va_wsS RX0 52 yX0_has wsX0_has) := goodIn_app (goodIn_of _ (by decide +kernel)) ggX0_digitsFallUpwards_X0_has
theorem dX0_digitsFallUpwards_0 : decode cX0_digitsFallUpwards 0 = .ok (.iconst 0, 1) := by decide +kernel
theorem dX0_digitsFallUpwards_1 : decode cX0_digitsFallUpwards 1 = .ok (.istore_n 1, 1) := by decide +kernel
theorem dX0_digitsFallUpwards_2 : decode cX0_digitsFallUpwards 2 = .ok (.iload_n 1, 1) := by decide +kernel
theorem dX0_digitsFallUpwards_3 : decode cX0_digitsFallUpwards 3 = .ok (.aload_n 0, 1) := by decide +kernel
theorem dX0_digitsFallUpwards_4 : decode cX0_digitsFallUpwards 4 = .ok (.getfield 9, 3) := by decide +kernel
theorem dX0_digitsFallUpwards_7 : decode cX0_digitsFallUpwards 7 = .ok (.if_icmp .ge 52, 3) := by decide +kernel
theorem dX0_digitsFallUpwards_10 : decode cX0_digitsFallUpwards 10 = .ok (.iconst 0, 1) := by decide +kernel
theorem dX0_digitsFallUpwards_11 : decode cX0_digitsFallUpwards 11 = .ok (.istore_n 2, 1) := by decide +kernel
theorem dX0_digitsFallUpwards_12 : decode cX0_digitsFallUpwards 12 = .ok (.iload_n 2, 1) := by decide +kernel
theorem dX0_digitsFallUpwards_13 : decode cX0_digitsFallUpwards 13 = .ok (.iload_n 1, 1) := by decide +kernel
theorem dX0_digitsFallUpwards_14 : decode cX0_digitsFallUpwards 14 = .ok (.if_icmp .ge 39, 3) := by decide +kernel
theorem dX0_digitsFallUpwards_17 : decode cX0_digitsFallUpwards 17 = .ok (.aload_n 0, 1) := by decide +kernel
theorem dX0_digitsFallUpwards_18 : decode cX0_digitsFallUpwards 18 = .ok (.getfield 13, 3) := by decide +kernel
theorem dX0_digitsFallUpwards_21 : decode cX0_digitsFallUpwards 21 = .ok (.iload_n 1, 1) := by decide +kernel
theorem dX0_digitsFallUpwards_22 : decode cX0_digitsFallUpwards 22 = .ok (.iaload, 1) := by decide +kernel
theorem dX0_digitsFallUpwards_23 : decode cX0_digitsFallUpwards 23 = .ok (.iload_n 2, 1) := by decide +kernel
theorem dX0_digitsFallUpwards_24 : decode cX0_digitsFallUpwards 24 = .ok (.invokestatic 52, 3) := by decide +kernel
theorem dX0_digitsFallUpwards_27 : decode cX0_digitsFallUpwards 27 = .ok (.ifCond .eq 20, 3) := by decide +kernel
theorem dX0_digitsFallUpwards_30 : decode cX0_digitsFallUpwards 30 = .ok (.aload_n 0, 1) := by decide +kernel
theorem dX0_digitsFallUpwards_31 : decode cX0_digitsFallUpwards 31 = .ok (.getfield 26, 3) := by decide +kernel
theorem dX0_digitsFallUpwards_34 : decode cX0_digitsFallUpwards 34 = .ok (.iload_n 2, 1) := by decide +kernel
theorem dX0_digitsFallUpwards_35 : decode cX0_digitsFallUpwards 35 = .ok (.iaload, 1) := by decide +kernel
theorem dX0_digitsFallUpwards_36 : decode cX0_digitsFallUpwards 36 = .ok (.aload_n 0, 1) := by decide +kernel
theorem dX0_digitsFallUpwards_37 : decode cX0_digitsFallUpwards 37 = .ok (.getfield 26, 3) := by decide +kernel
theorem dX0_digitsFallUpwards_40 : decode cX0_digitsFallUpwards 40 = .ok (.iload_n 1, 1) := by decide +kernel
theorem dX0_digitsFallUpwards_41 : decode cX0_digitsFallUpwards 41 = .ok (.iaload, 1) := by decide +kernel
theorem dX0_digitsFallUpwards_42 : decode cX0_digitsFallUpwards 42 = .ok (.if_icmp .ge 5, 3) := by decide +kernel
theorem dX0_digitsFallUpwards_45 : decode cX0_digitsFallUpwards 45 = .ok (.iconst 0, 1) := by decide +kernel
theorem dX0_digitsFallUpwards_46 : decode cX0_digitsFallUpwards 46 = .ok (.ireturn, 1) := by decide +kernel
theorem dX0_digitsFallUpwards_47 : decode cX0_digitsFallUpwards 47 = .ok (.iinc 2 1, 3) := by decide +kernel
theorem dX0_digitsFallUpwards_50 : decode cX0_digitsFallUpwards 50 = .ok (.goto (-38), 3) := by decide +kernel
theorem dX0_digitsFallUpwards_53 : decode cX0_digitsFallUpwards 53 = .ok (.iinc 1 1, 3) := by decide +kernel
theorem dX0_digitsFallUpwards_56 : decode cX0_digitsFallUpwards 56 = .ok (.goto (-54), 3) := by decide +kernel
theorem dX0_digitsFallUpwards_59 : decode cX0_digitsFallUpwards 59 = .ok (.iconst 1, 1) := by decide +kernel
theorem dX0_digitsFallUpwards_60 : decode cX0_digitsFallUpwards 60 = .ok (.ireturn, 1) := by decide +kernel
theorem dX0_numberOfDigits_0 : decode cX0_numberOfDigits 0 = .ok (.iconst 0, 1) := by decide +kernel
theorem dX0_numberOfDigits_1 : decode cX0_numberOfDigits 1 = .ok (.istore_n 2, 1) := by decide +kernel
theorem dX0_numberOfDigits_2 : decode cX0_numberOfDigits 2 = .ok (.aload_n 0, 1) := by decide +kernel
theorem dX0_numberOfDigits_3 : decode cX0_numberOfDigits 3 = .ok (.getfield 9, 3) := by decide +kernel
theorem dX0_numberOfDigits_6 : decode cX0_numberOfDigits 6 = .ok (.iconst 1, 1) := by decide +kernel
theorem dX0_numberOfDigits_7 : decode cX0_numberOfDigits 7 = .ok (.isub, 1) := by decide +kernel
theorem dX0_numberOfDigits_8 : decode cX0_numberOfDigits 8 = .ok (.istore_n 3, 1) := by decide +kernel
theorem dX0_numberOfDigits_9 : decode cX0_numberOfDigits 9 = .ok (.iload_n 3, 1) := by decide +kernel
theorem dX0_numberOfDigits_10 : decode cX0_numberOfDigits 10 = .ok (.ifCond .lt 22, 3) := by decide +kernel
theorem dX0_numberOfDigits_13 : decode cX0_numberOfDigits 13 = .ok (.iload_n 2, 1) := by decide +kernel
theorem dX0_numberOfDigits_14 : decode cX0_numberOfDigits 14 = .ok (.iload_n 1, 1) := by decide +kernel
theorem dX0_numberOfDigits_15 : decode cX0_numberOfDigits 15 = .ok (.iconst 1, 1) := by decide +kernel
theorem dX0_numberOfDigits_16 : decode cX0_numberOfDigits 16 = .ok (.iadd, 1) := by decide +kernel
theorem dX0_numberOfDigits_17 : decode cX0_numberOfDigits 17 = .ok (.imul, 1) := by decide +kernel
theorem dX0_numberOfDigits_18 : decode cX0_numberOfDigits 18 = .ok (.aload_n 0, 1) := by decide +kernel
theorem dX0_numberOfDigits_19 : decode cX0_numberOfDigits 19 = .ok (.getfield 26, 3) := by decide +kernel
theorem dX0_numberOfDigits_22 : decode cX0_numberOfDigits 22 = .ok (.iload_n 3, 1) := by decide +kernel
theorem dX0_numberOfDigits_23 : decode cX0_numberOfDigits 23 = .ok (.iaload, 1) := by decide +kernel
theorem dX0_numberOfDigits_24 : decode cX0_numberOfDigits 24 = .ok (.iadd, 1) := by decide +kernel
theorem dX0_numberOfDigits_25 : decode cX0_numberOfDigits 25 = .ok (.istore_n 2, 1) := by decide +kernel
theorem dX0_numberOfDigits_26 : decode cX0_numberOfDigits 26 = .ok (.iinc 3 (-1), 3) := by decide +kernel
theorem dX0_numberOfDigits_29 : decode cX0_numberOfDigits 29 = .ok (.goto (-20), 3) := by decide +kernel
theorem dX0_numberOfDigits_32 : decode cX0_numberOfDigits 32 = .ok (.iload_n 2, 1) := by decide +kernel
theorem dX0_numberOfDigits_33 : decode cX0_numberOfDigits 33 = .ok (.ireturn, 1) := by decide +kernel
set_option maxRecDepth 20000 in
theorem ggX0_flipDigit_X0_has : GoodIn wsX0_flipDigit wsX0_has := goodIn_r _ [15] (by decide +kernel) (by decide +kernel)
set_option maxRecDepth 20000 in
theorem gX0_flipDigit_X0_has : GoodIn wsX0_flipDigit (va_wsS RX0 52 yX0_has wsX0_has) := goodIn_app (goodIn_of _ (by decide +kernel)) ggX0_flipDigit_X0_has
theorem dX0_flipDigit_0 : decode cX0_flipDigit 0 = .ok (.iload_n 1, 1) := by decide +kernel
theorem dX0_flipDigit_1 : decode cX0_flipDigit 1 = .ok (.istore_n 3, 1) := by decide +kernel
theorem dX0_flipDigit_2 : decode cX0_flipDigit 2 = .ok (.iconst 0, 1) := by decide +kernel
theorem dX0_flipDigit_3 : decode cX0_flipDigit 3 = .ok (.istore 4, 2) := by decide +kernel
theorem dX0_flipDigit_5 : decode cX0_flipDigit 5 = .ok (.iconst 0, 1) := by decide +kernel
theorem dX0_flipDigit_6 : decode cX0_flipDigit 6 = .ok (.istore 5, 2) := by decide +kernel
theorem dX0_flipDigit_8 : decode cX0_flipDigit 8 = .ok (.iload 5, 2) := by decide +kernel
theorem dX0_flipDigit_10 : decode cX0_flipDigit 10 = .ok (.aload_n 0, 1) := by decide +kernel
theorem dX0_flipDigit_11 : decode cX0_flipDigit 11 = .ok (.getfield 9, 3) := by decide +kernel
theorem dX0_flipDigit_14 : decode cX0_flipDigit 14 = .ok (.if_icmp .ge 63, 3) := by decide +kernel
theorem dX0_flipDigit_17 : decode cX0_flipDigit 17 = .ok (.aload_n 0, 1) := by decide +kernel
theorem dX0_flipDigit_18 : decode cX0_flipDigit 18 = .ok (.getfield 13, 3) := by decide +kernel
theorem dX0_flipDigit_21 : decode cX0_flipDigit 21 = .ok (.iload_n 2, 1) := by decide +kernel
theorem dX0_flipDigit_22 : decode cX0_flipDigit 22 = .ok (.iaload, 1) := by decide +kernel
theorem dX0_flipDigit_23 : decode cX0_flipDigit 23 = .ok (.iload 5, 2) := by decide +kernel
theorem dX0_flipDigit_25 : decode cX0_flipDigit 25 = .ok (.invokestatic 52, 3) := by decide +kernel
theorem dX0_flipDigit_28 : decode cX0_flipDigit 28 = .ok (.ifCond .eq 15, 3) := by decide +kernel
theorem dX0_flipDigit_31 : decode cX0_flipDigit 31 = .ok (.iload_n 3, 1) := by decide +kernel
theorem dX0_flipDigit_32 : decode cX0_flipDigit 32 = .ok (.aload_n 0, 1) := by decide +kernel
theorem dX0_flipDigit_33 : decode cX0_flipDigit 33 = .ok (.getfield 26, 3) := by decide +kernel
theorem dX0_flipDigit_36 : decode cX0_flipDigit 36 = .ok (.iload 5, 2) := by decide +kernel
theorem dX0_flipDigit_38 : decode cX0_flipDigit 38 = .ok (.iaload, 1) := by decide +kernel
theorem dX0_flipDigit_39 : decode cX0_flipDigit 39 = .ok (.invokestatic 173, 3) := by decide +kernel
theorem dX0_flipDigit_42 : decode cX0_flipDigit 42 = .ok (.istore_n 3, 1) := by decide +kernel
theorem dX0_flipDigit_43 : decode cX0_flipDigit 43 = .ok (.aload_n 0, 1) := by decide +kernel
theorem dX0_flipDigit_44 : decode cX0_flipDigit 44 = .ok (.getfield 17, 3) := by decide +kernel
theorem dX0_flipDigit_47 : decode cX0_flipDigit 47 = .ok (.iload_n 2, 1) := by decide +kernel
theorem dX0_flipDigit_48 : decode cX0_flipDigit 48 = .ok (.iaload, 1) := by decide +kernel
theorem dX0_flipDigit_49 : decode cX0_flipDigit 49 = .ok (.iload 5, 2) := by decide +kernel
theorem dX0_flipDigit_51 : decode cX0_flipDigit 51 = .ok (.invokestatic 52, 3) := by decide +kernel
theorem dX0_flipDigit_54 : decode cX0_flipDigit 54 = .ok (.ifCond .eq 17, 3) := by decide +kernel
theorem dX0_flipDigit_57 : decode cX0_flipDigit 57 = .ok (.iload 4, 2) := by decide +kernel
theorem dX0_flipDigit_59 : decode cX0_flipDigit 59 = .ok (.aload_n 0, 1) := by decide +kernel
theorem dX0_flipDigit_60 : decode cX0_flipDigit 60 = .ok (.getfield 26, 3) := by decide +kernel
theorem dX0_flipDigit_63 : decode cX0_flipDigit 63 = .ok (.iload 5, 2) := by decide +kernel
theorem dX0_flipDigit_65 : decode cX0_flipDigit 65 = .ok (.iaload, 1) := by decide +kernel
theorem dX0_flipDigit_66 : decode cX0_flipDigit 66 = .ok (.invokestatic 160, 3) := by decide +kernel
theorem dX0_flipDigit_69 : decode cX0_flipDigit 69 = .ok (.istore 4, 2) := by decide +kernel
theorem dX0_flipDigit_71 : decode cX0_flipDigit 71 = .ok (.iinc 5 1, 3) := by decide +kernel
theorem dX0_flipDigit_74 : decode cX0_flipDigit 74 = .ok (.goto (-66), 3) := by decide +kernel
theorem dX0_flipDigit_77 : decode cX0_flipDigit 77 = .ok (.aload_n 0, 1) := by decide +kernel
theorem dX0_flipDigit_78 : decode cX0_flipDigit 78 = .ok (.getfield 26, 3) := by decide +kernel
theorem dX0_flipDigit_81 : decode cX0_flipDigit 81 = .ok (.iload_n 2, 1) := by decide +kernel
theorem dX0_flipDigit_82 : decode cX0_flipDigit 82 = .ok (.iload_n 3, 1) := by decide +kernel
theorem dX0_flipDigit_83 : decode cX0_flipDigit 83 = .ok (.iload 4, 2) := by decide +kernel
theorem dX0_flipDigit_85 : decode cX0_flipDigit 85 = .ok (.iadd, 1) := by decide +kernel
theorem dX0_flipDigit_86 : decode cX0_flipDigit 86 = .ok (.aload_n 0, 1) := by decide +kernel
theorem dX0_flipDigit_87 : decode cX0_flipDigit 87 = .ok (.getfield 26, 3) := by decide +kernel
theorem dX0_flipDigit_90 : decode cX0_flipDigit 90 = .ok (.iload_n 2, 1) := by decide +kernel
theorem dX0_flipDigit_91 : decode cX0_flipDigit 91 = .ok (.iaload, 1) := by decide +kernel
theorem dX0_flipDigit_92 : decode cX0_flipDigit 92 = .ok (.isub, 1) := by decide +kernel
theorem dX0_flipDigit_93 : decode cX0_flipDigit 93 = .ok (.iastore, 1) := by decide +kernel
theorem dX0_flipDigit_94 : decode cX0_flipDigit 94 = .ok (.return_, 1) := by decide +kernel
set_option maxRecDepth 20000 in
theorem ggX0_turnDigits_X0_flipDigit : GoodIn wsX0_turnDigits wsX0_flipDigit := goodIn_r _ [8, 1, 9, 10, 11, 12, 13, 14, 15, 16, 17, 18, 19, 20, 7, 21, 22, 23, 24, 25, 26, 27, 28, 29, 30, 31, 32, 33, 34] (by decide +kernel) (by decide +kernel)
set_option maxRecDepth 20000 in
theorem gX0_turnDigits_X0_flipDigit : GoodIn wsX0_turnDigits (wsV RX0 127 RX0 yX0_flipDigit wsX0_flipDigit) := goodIn_app (goodIn_of _ (by decide +kernel)) ggX0_turnDigits_X0_flipDigit
theorem dX0_turnDigits_0 : decode cX0_turnDigits 0 = .ok (.iload_n 2, 1) := by decide +kernel
theorem dX0_turnDigits_1 : decode cX0_turnDigits 1 = .ok (.ifCond .ne 29, 3) := by decide +kernel
theorem dX0_turnDigits_4 : decode cX0_turnDigits 4 = .ok (.aload_n 0, 1) := by decide +kernel
theorem dX0_turnDigits_5 : decode cX0_turnDigits 5 = .ok (.getfield 9, 3) := by decide +kernel
theorem dX0_turnDigits_8 : decode cX0_turnDigits 8 = .ok (.iconst 1, 1) := by decide +kernel
theorem dX0_turnDigits_9 : decode cX0_turnDigits 9 = .ok (.isub, 1) := by decide +kernel
theorem dX0_turnDigits_10 : decode cX0_turnDigits 10 = .ok (.istore_n 3, 1) := by decide +kernel
theorem dX0_turnDigits_11 : decode cX0_turnDigits 11 = .ok (.iload_n 3, 1) := by decide +kernel
theorem dX0_turnDigits_12 : decode cX0_turnDigits 12 = .ok (.ifCond .lt 15, 3) := by decide +kernel
theorem dX0_turnDigits_15 : decode cX0_turnDigits 15 = .ok (.aload_n 0, 1) := by decide +kernel
theorem dX0_turnDigits_16 : decode cX0_turnDigits 16 = .ok (.iload_n 1, 1) := by decide +kernel
theorem dX0_turnDigits_17 : decode cX0_turnDigits 17 = .ok (.iload_n 3, 1) := by decide +kernel
theorem dX0_turnDigits_18 : decode cX0_turnDigits 18 = .ok (.invokevirtual 127, 3) := by decide +kernel
theorem dX0_turnDigits_21 : decode cX0_turnDigits 21 = .ok (.iinc 3 (-1), 3) := by decide +kernel
theorem dX0_turnDigits_24 : decode cX0_turnDigits 24 = .ok (.goto (-13), 3) := by decide +kernel
theorem dX0_turnDigits_27 : decode cX0_turnDigits 27 = .ok (.goto 30, 3) := by decide +kernel
theorem dX0_turnDigits_30 : decode cX0_turnDigits 30 = .ok (.iconst 0, 1) := by decide +kernel
theorem dX0_turnDigits_31 : decode cX0_turnDigits 31 = .ok (.istore_n 3, 1) := by decide +kernel
theorem dX0_turnDigits_32 : decode cX0_turnDigits 32 = .ok (.iload_n 3, 1) := by decide +kernel
theorem dX0_turnDigits_33 : decode cX0_turnDigits 33 = .ok (.aload_n 0, 1) := by decide +kernel
theorem dX0_turnDigits_34 : decode cX0_turnDigits 34 = .ok (.getfield 45, 3) := by decide +kernel
theorem dX0_turnDigits_37 : decode cX0_turnDigits 37 = .ok (.if_icmp .ge 20, 3) := by decide +kernel
theorem dX0_turnDigits_40 : decode cX0_turnDigits 40 = .ok (.aload_n 0, 1) := by decide +kernel
theorem dX0_turnDigits_41 : decode cX0_turnDigits 41 = .ok (.iload_n 1, 1) := by decide +kernel
theorem dX0_turnDigits_42 : decode cX0_turnDigits 42 = .ok (.aload_n 0, 1) := by decide +kernel
theorem dX0_turnDigits_43 : decode cX0_turnDigits 43 = .ok (.getfield 23, 3) := by decide +kernel
theorem dX0_turnDigits_46 : decode cX0_turnDigits 46 = .ok (.iload_n 3, 1) := by decide +kernel
theorem dX0_turnDigits_47 : decode cX0_turnDigits 47 = .ok (.iaload, 1) := by decide +kernel
theorem dX0_turnDigits_48 : decode cX0_turnDigits 48 = .ok (.invokevirtual 127, 3) := by decide +kernel
theorem dX0_turnDigits_51 : decode cX0_turnDigits 51 = .ok (.iinc 3 1, 3) := by decide +kernel
theorem dX0_turnDigits_54 : decode cX0_turnDigits 54 = .ok (.goto (-22), 3) := by decide +kernel
theorem dX0_turnDigits_57 : decode cX0_turnDigits 57 = .ok (.return_, 1) := by decide +kernel
set_option maxRecDepth 20000 in
theorem ggX0_sumAtRoot_X0_countSizes : GoodIn wsX0_sumAtRoot wsX0_countSizes := goodIn_r _ [8, 1, 2, 9, 10, 11, 7, 12, 13, 14, 15, 16, 17, 18, 19, 20, 21, 22, 23, 24, 25, 26, 27, 28, 29, 30, 31, 32, 33, 34, 35, 36, 37, 38, 39, 40, 41, 42, 43, 44] (by decide +kernel) (by decide +kernel)
set_option maxRecDepth 20000 in
theorem gX0_sumAtRoot_X0_countSizes : GoodIn wsX0_sumAtRoot (wsV RX0 137 RX0 yX0_countSizes wsX0_countSizes) := goodIn_app (goodIn_of _ (by decide +kernel)) ggX0_sumAtRoot_X0_countSizes
theorem dX0_sumAtRoot_0 : decode cX0_sumAtRoot 0 = .ok (.aload_n 0, 1) := by decide +kernel
theorem dX0_sumAtRoot_1 : decode cX0_sumAtRoot 1 = .ok (.invokevirtual 137, 3) := by decide +kernel
theorem dX0_sumAtRoot_4 : decode cX0_sumAtRoot 4 = .ok (.iconst 0, 1) := by decide +kernel
theorem dX0_sumAtRoot_5 : decode cX0_sumAtRoot 5 = .ok (.istore_n 3, 1) := by decide +kernel
theorem dX0_sumAtRoot_6 : decode cX0_sumAtRoot 6 = .ok (.iconst 0, 1) := by decide +kernel
theorem dX0_sumAtRoot_7 : decode cX0_sumAtRoot 7 = .ok (.istore 4, 2) := by decide +kernel
theorem dX0_sumAtRoot_9 : decode cX0_sumAtRoot 9 = .ok (.aload_n 0, 1) := by decide +kernel
theorem dX0_sumAtRoot_10 : decode cX0_sumAtRoot 10 = .ok (.getfield 9, 3) := by decide +kernel
theorem dX0_sumAtRoot_13 : decode cX0_sumAtRoot 13 = .ok (.istore 5, 2) := by decide +kernel
theorem dX0_sumAtRoot_15 : decode cX0_sumAtRoot 15 = .ok (.iload 5, 2) := by decide +kernel
theorem dX0_sumAtRoot_17 : decode cX0_sumAtRoot 17 = .ok (.ifCond .lt 32, 3) := by decide +kernel
theorem dX0_sumAtRoot_20 : decode cX0_sumAtRoot 20 = .ok (.iload_n 3, 1) := by decide +kernel
theorem dX0_sumAtRoot_21 : decode cX0_sumAtRoot 21 = .ok (.iload_n 2, 1) := by decide +kernel
theorem dX0_sumAtRoot_22 : decode cX0_sumAtRoot 22 = .ok (.iload 4, 2) := by decide +kernel
theorem dX0_sumAtRoot_24 : decode cX0_sumAtRoot 24 = .ok (.imul, 1) := by decide +kernel
theorem dX0_sumAtRoot_25 : decode cX0_sumAtRoot 25 = .ok (.iadd, 1) := by decide +kernel
theorem dX0_sumAtRoot_26 : decode cX0_sumAtRoot 26 = .ok (.istore 6, 2) := by decide +kernel
theorem dX0_sumAtRoot_28 : decode cX0_sumAtRoot 28 = .ok (.aload_n 0, 1) := by decide +kernel
theorem dX0_sumAtRoot_29 : decode cX0_sumAtRoot 29 = .ok (.getfield 29, 3) := by decide +kernel
theorem dX0_sumAtRoot_32 : decode cX0_sumAtRoot 32 = .ok (.iload 5, 2) := by decide +kernel
theorem dX0_sumAtRoot_34 : decode cX0_sumAtRoot 34 = .ok (.iaload, 1) := by decide +kernel
theorem dX0_sumAtRoot_35 : decode cX0_sumAtRoot 35 = .ok (.iload 4, 2) := by decide +kernel
theorem dX0_sumAtRoot_37 : decode cX0_sumAtRoot 37 = .ok (.isub, 1) := by decide +kernel
theorem dX0_sumAtRoot_38 : decode cX0_sumAtRoot 38 = .ok (.istore_n 3, 1) := by decide +kernel
theorem dX0_sumAtRoot_39 : decode cX0_sumAtRoot 39 = .ok (.iload 6, 2) := by decide +kernel
theorem dX0_sumAtRoot_41 : decode cX0_sumAtRoot 41 = .ok (.istore 4, 2) := by decide +kernel
theorem dX0_sumAtRoot_43 : decode cX0_sumAtRoot 43 = .ok (.iinc 5 (-1), 3) := by decide +kernel
theorem dX0_sumAtRoot_46 : decode cX0_sumAtRoot 46 = .ok (.goto (-31), 3) := by decide +kernel
theorem dX0_sumAtRoot_49 : decode cX0_sumAtRoot 49 = .ok (.iload_n 1, 1) := by decide +kernel
theorem dX0_sumAtRoot_50 : decode cX0_sumAtRoot 50 = .ok (.iconst 1, 1) := by decide +kernel
theorem dX0_sumAtRoot_51 : decode cX0_sumAtRoot 51 = .ok (.if_icmp .ne 8, 3) := by decide +kernel
theorem dX0_sumAtRoot_54 : decode cX0_sumAtRoot 54 = .ok (.iload_n 3, 1) := by decide +kernel
theorem dX0_sumAtRoot_55 : decode cX0_sumAtRoot 55 = .ok (.iload 4, 2) := by decide +kernel
theorem dX0_sumAtRoot_57 : decode cX0_sumAtRoot 57 = .ok (.iadd, 1) := by decide +kernel
theorem dX0_sumAtRoot_58 : decode cX0_sumAtRoot 58 = .ok (.ireturn, 1) := by decide +kernel
theorem dX0_sumAtRoot_59 : decode cX0_sumAtRoot 59 = .ok (.iload_n 1, 1) := by decide +kernel
theorem dX0_sumAtRoot_60 : decode cX0_sumAtRoot 60 = .ok (.iconst 2, 1) := by decide +kernel
theorem dX0_sumAtRoot_61 : decode cX0_sumAtRoot 61 = .ok (.if_icmp .ne 8, 3) := by decide +kernel
theorem dX0_sumAtRoot_64 : decode cX0_sumAtRoot 64 = .ok (.iload_n 3, 1) := by decide +kernel
theorem dX0_sumAtRoot_65 : decode cX0_sumAtRoot 65 = .ok (.iload 4, 2) := by decide +kernel
theorem dX0_sumAtRoot_67 : decode cX0_sumAtRoot 67 = .ok (.isub, 1) := by decide +kernel
theorem dX0_sumAtRoot_68 : decode cX0_sumAtRoot 68 = .ok (.ireturn, 1) := by decide +kernel
theorem dX0_sumAtRoot_69 : decode cX0_sumAtRoot 69 = .ok (.iload 4, 2) := by decide +kernel
theorem dX0_sumAtRoot_71 : decode cX0_sumAtRoot 71 = .ok (.ifCond .ne 7, 3) := by decide +kernel
theorem dX0_sumAtRoot_74 : decode cX0_sumAtRoot 74 = .ok (.iload_n 3, 1) := by decide +kernel
theorem dX0_sumAtRoot_75 : decode cX0_sumAtRoot 75 = .ok (.goto 5, 3) := by decide +kernel
theorem dX0_sumAtRoot_78 : decode cX0_sumAtRoot 78 = .ok (.ldc 56, 2) := by decide +kernel
theorem dX0_sumAtRoot_80 : decode cX0_sumAtRoot 80 = .ok (.ireturn, 1) := by decide +kernel
theorem dX1_init_0 : decode cX1_init 0 = .ok (.aload_n 0, 1) := by decide +kernel
theorem dX1_init_1 : decode cX1_init 1 = .ok (.invokespecial 1, 3) := by decide +kernel
theorem dX1_init_4 : decode cX1_init 4 = .ok (.aload_n 0, 1) := by decide +kernel
theorem dX1_init_5 : decode cX1_init 5 = .ok (.iconst 3, 1) := by decide +kernel
theorem dX1_init_6 : decode cX1_init 6 = .ok (.putfield 7, 3) := by decide +kernel
theorem dX1_init_9 : decode cX1_init 9 = .ok (.aload_n 0, 1) := by decide +kernel
theorem dX1_init_10 : decode cX1_init 10 = .ok (.bipush 64, 2) := by decide +kernel
theorem dX1_init_12 : decode cX1_init 12 = .ok (.newarray .boolean, 2) := by decide +kernel
theorem dX1_init_14 : decode cX1_init 14 = .ok (.putfield 13, 3) := by decide +kernel
theorem dX1_init_17 : decode cX1_init 17 = .ok (.aload_n 0, 1) := by decide +kernel
theorem dX1_init_18 : decode cX1_init 18 = .ok (.bipush 8, 2) := by decide +kernel
theorem dX1_init_20 : decode cX1_init 20 = .ok (.newarray .int, 2) := by decide +kernel
theorem dX1_init_22 : decode cX1_init 22 = .ok (.putfield 17, 3) := by decide +kernel
theorem dX1_init_25 : decode cX1_init 25 = .ok (.aload_n 0, 1) := by decide +kernel
theorem dX1_init_26 : decode cX1_init 26 = .ok (.bipush 16, 2) := by decide +kernel
theorem dX1_init_28 : decode cX1_init 28 = .ok (.newarray .int, 2) := by decide +kernel
theorem dX1_init_30 : decode cX1_init 30 = .ok (.putfield 21, 3) := by decide +kernel
theorem dX1_init_33 : decode cX1_init 33 = .ok (.aload_n 0, 1) := by decide +kernel
theorem dX1_init_34 : decode cX1_init 34 = .ok (.sipush 256, 3) := by decide +kernel
theorem dX1_init_37 : decode cX1_init 37 = .ok (.newarray .boolean, 2) := by decide +kernel
theorem dX1_init_39 : decode cX1_init 39 = .ok (.putfield 24, 3) := by decide +kernel
theorem dX1_init_42 : decode cX1_init 42 = .ok (.aload_n 0, 1) := by decide +kernel
theorem dX1_init_43 : decode cX1_init 43 = .ok (.bipush 8, 2) := by decide +kernel
theorem dX1_init_45 : decode cX1_init 45 = .ok (.newarray .int, 2) := by decide +kernel
theorem dX1_init_47 : decode cX1_init 47 = .ok (.putfield 27, 3) := by decide +kernel
theorem dX1_init_50 : decode cX1_init 50 = .ok (.aload_n 0, 1) := by decide +kernel
theorem dX1_init_51 : decode cX1_init 51 = .ok (.bipush 6, 2) := by decide +kernel
theorem dX1_init_53 : decode cX1_init 53 = .ok (.newarray .int, 2) := by decide +kernel
theorem dX1_init_55 : decode cX1_init 55 = .ok (.putfield 30, 3) := by decide +kernel
theorem dX1_init_58 : decode cX1_init 58 = .ok (.aload_n 0, 1) := by decide +kernel
theorem dX1_init_59 : decode cX1_init 59 = .ok (.iconst 0, 1) := by decide +kernel
theorem dX1_init_60 : decode cX1_init 60 = .ok (.putfield 33, 3) := by decide +kernel
theorem dX1_init_63 : decode cX1_init 63 = .ok (.return_, 1) := by decide +kernel
theorem dX1_in_0 : decode cX1_in 0 = .ok (.iload_n 0, 1) := by decide +kernel
theorem dX1_in_1 : decode cX1_in 1 = .ok (.iload_n 1, 1) := by decide +kernel
theorem dX1_in_2 : decode cX1_in 2 = .ok (.if_icmp .lt 12, 3) := by decide +kernel
theorem dX1_in_5 : decode cX1_in 5 = .ok (.iload_n 0, 1) := by decide +kernel
theorem dX1_in_6 : decode cX1_in 6 = .ok (.iload_n 2, 1) := by decide +kernel
theorem dX1_in_7 : decode cX1_in 7 = .ok (.if_icmp .gt 7, 3) := by decide +kernel
theorem dX1_in_10 : decode cX1_in 10 = .ok (.iconst 1, 1) := by decide +kernel
theorem dX1_in_11 : decode cX1_in 11 = .ok (.goto 4, 3) := by decide +kernel
theorem dX1_in_14 : decode cX1_in 14 = .ok (.iconst 0, 1) := by decide +kernel
theorem dX1_in_15 : decode cX1_in 15 = .ok (.ireturn, 1) := by decide +kernel
set_option maxRecDepth 20000 in
theorem ggX1_isThing_X1_in : GoodIn wsX1_isThing wsX1_in := goodIn_r _ [5] (by decide +kernel) (by decide +kernel)
set_option maxRecDepth 20000 in
theorem gX1_isThing_X1_in : GoodIn wsX1_isThing (va_wsS RX1 36 yX1_in wsX1_in) := goodIn_app (goodIn_of _ (by decide +kernel)) ggX1_isThing_X1_in
theorem dX1_isThing_0 : decode cX1_isThing 0 = .ok (.iload_n 1, 1) := by decide +kernel
theorem dX1_isThing_1 : decode cX1_isThing 1 = .ok (.iconst 0, 1) := by decide +kernel
theorem dX1_isThing_2 : decode cX1_isThing 2 = .ok (.aload_n 0, 1) := by decide +kernel
theorem dX1_isThing_3 : decode cX1_isThing 3 = .ok (.getfield 7, 3) := by decide +kernel
theorem dX1_isThing_6 : decode cX1_isThing 6 = .ok (.iconst 1, 1) := by decide +kernel
theorem dX1_isThing_7 : decode cX1_isThing 7 = .ok (.isub, 1) := by decide +kernel
theorem dX1_isThing_8 : decode cX1_isThing 8 = .ok (.invokestatic 36, 3) := by decide +kernel
theorem dX1_isThing_11 : decode cX1_isThing 11 = .ok (.ireturn, 1) := by decide +kernel
set_option maxRecDepth 20000 in
theorem ggX1_things_X1_in : GoodIn wsX1_things wsX1_in := goodIn_r _ [8] (by decide +kernel) (by decide +kernel)
set_option maxRecDepth 20000 in
theorem gX1_things_X1_in : GoodIn wsX1_things (va_wsS RX1 36 yX1_in wsX1_in) := goodIn_app (goodIn_of _ (by decide +kernel)) ggX1_things_X1_in
theorem dX1_things_0 : decode cX1_things 0 = .ok (.iload_n 1, 1) := by decide +kernel
theorem dX1_things_1 : decode cX1_things 1 = .ok (.iconst 1, 1) := by decide +kernel
theorem dX1_things_2 : decode cX1_things 2 = .ok (.bipush 8, 2) := by decide +kernel
theorem dX1_things_4 : decode cX1_things 4 = .ok (.invokestatic 36, 3) := by decide +kernel
theorem dX1_things_7 : decode cX1_things 7 = .ok (.ifCond .ne 5, 3) := by decide +kernel
theorem dX1_things_10 : decode cX1_things 10 = .ok (.iconst (-1), 1) := by decide +kernel
theorem dX1_things_11 : decode cX1_things 11 = .ok (.ireturn, 1) := by decide +kernel
theorem dX1_things_12 : decode cX1_things 12 = .ok (.aload_n 0, 1) := by decide +kernel
theorem dX1_things_13 : decode cX1_things 13 = .ok (.getfield 7, 3) := by decide +kernel
theorem dX1_things_16 : decode cX1_things 16 = .ok (.istore_n 2, 1) := by decide +kernel
theorem dX1_things_17 : decode cX1_things 17 = .ok (.aload_n 0, 1) := by decide +kernel
theorem dX1_things_18 : decode cX1_things 18 = .ok (.iload_n 1, 1) := by decide +kernel
theorem dX1_things_19 : decode cX1_things 19 = .ok (.putfield 7, 3) := by decide +kernel
theorem dX1_things_22 : decode cX1_things 22 = .ok (.aload_n 0, 1) := by decide +kernel
theorem dX1_things_23 : decode cX1_things 23 = .ok (.iconst 0, 1) := by decide +kernel
theorem dX1_things_24 : decode cX1_things 24 = .ok (.putfield 33, 3) := by decide +kernel
theorem dX1_things_27 : decode cX1_things 27 = .ok (.iconst 0, 1) := by decide +kernel
theorem dX1_things_28 : decode cX1_things 28 = .ok (.istore_n 3, 1) := by decide +kernel
theorem dX1_things_29 : decode cX1_things 29 = .ok (.iload_n 3, 1) := by decide +kernel
theorem dX1_things_30 : decode cX1_things 30 = .ok (.bipush 64, 2) := by decide +kernel
theorem dX1_things_32 : decode cX1_things 32 = .ok (.if_icmp .ge 16, 3) := by decide +kernel
theorem dX1_things_35 : decode cX1_things 35 = .ok (.aload_n 0, 1) := by decide +kernel
theorem dX1_things_36 : decode cX1_things 36 = .ok (.getfield 13, 3) := by decide +kernel
theorem dX1_things_39 : decode cX1_things 39 = .ok (.iload_n 3, 1) := by decide +kernel
theorem dX1_things_40 : decode cX1_things 40 = .ok (.iconst 0, 1) := by decide +kernel
theorem dX1_things_41 : decode cX1_things 41 = .ok (.bastore, 1) := by decide +kernel
theorem dX1_things_42 : decode cX1_things 42 = .ok (.iinc 3 1, 3) := by decide +kernel
theorem dX1_things_45 : decode cX1_things 45 = .ok (.goto (-16), 3) := by decide +kernel
theorem dX1_things_48 : decode cX1_things 48 = .ok (.iconst 0, 1) := by decide +kernel
theorem dX1_things_49 : decode cX1_things 49 = .ok (.istore_n 3, 1) := by decide +kernel
theorem dX1_things_50 : decode cX1_things 50 = .ok (.iload_n 3, 1) := by decide +kernel
theorem dX1_things_51 : decode cX1_things 51 = .ok (.bipush 8, 2) := by decide +kernel
theorem dX1_things_53 : decode cX1_things 53 = .ok (.if_icmp .ge 16, 3) := by decide +kernel
theorem dX1_things_56 : decode cX1_things 56 = .ok (.aload_n 0, 1) := by decide +kernel
theorem dX1_things_57 : decode cX1_things 57 = .ok (.getfield 17, 3) := by decide +kernel
theorem dX1_things_60 : decode cX1_things 60 = .ok (.iload_n 3, 1) := by decide +kernel
theorem dX1_things_61 : decode cX1_things 61 = .ok (.iconst 0, 1) := by decide +kernel
theorem dX1_things_62 : decode cX1_things 62 = .ok (.iastore, 1) := by decide +kernel
theorem dX1_things_63 : decode cX1_things 63 = .ok (.iinc 3 1, 3) := by decide +kernel
theorem dX1_things_66 : decode cX1_things 66 = .ok (.goto (-16), 3) := by decide +kernel
theorem dX1_things_69 : decode cX1_things 69 = .ok (.iload_n 2, 1) := by decide +kernel
theorem dX1_things_70 : decode cX1_things 70 = .ok (.ireturn, 1) := by decide +kernel
set_option maxRecDepth 20000 in
theorem ggX1_lay_X1_isThing : GoodIn wsX1_lay wsX1_isThing := goodIn_r _ [7, 2, 8, 9, 6, 10, 11, 12, 13, 14, 15, 16, 17, 18, 19] (by decide +kernel) (by decide +kernel)
set_option maxRecDepth 20000 in
theorem gX1_lay_X1_isThing : GoodIn wsX1_lay (wsV RX1 40 RX1 yX1_isThing wsX1_isThing) := goodIn_app (goodIn_of _ (by decide +kernel)) ggX1_lay_X1_isThing
theorem dX1_lay_0 : decode cX1_lay 0 = .ok (.aload_n 0, 1) := by decide +kernel
theorem dX1_lay_1 : decode cX1_lay 1 = .ok (.iload_n 1, 1) := by decide +kernel
theorem dX1_lay_2 : decode cX1_lay 2 = .ok (.invokevirtual 40, 3) := by decide +kernel
theorem dX1_lay_5 : decode cX1_lay 5 = .ok (.ifCond .eq 16, 3) := by decide +kernel
theorem dX1_lay_8 : decode cX1_lay 8 = .ok (.aload_n 0, 1) := by decide +kernel
theorem dX1_lay_9 : decode cX1_lay 9 = .ok (.iload_n 2, 1) := by decide +kernel
theorem dX1_lay_10 : decode cX1_lay 10 = .ok (.invokevirtual 40, 3) := by decide +kernel
theorem dX1_lay_13 : decode cX1_lay 13 = .ok (.ifCond .eq 8, 3) := by decide +kernel
theorem dX1_lay_16 : decode cX1_lay 16 = .ok (.iload_n 1, 1) := by decide +kernel
theorem dX1_lay_17 : decode cX1_lay 17 = .ok (.iload_n 2, 1) := by decide +kernel
theorem dX1_lay_18 : decode cX1_lay 18 = .ok (.if_icmp .lt 5, 3) := by decide +kernel
theorem dX1_lay_21 : decode cX1_lay 21 = .ok (.iconst (-1), 1) := by decide +kernel
theorem dX1_lay_22 : decode cX1_lay 22 = .ok (.ireturn, 1) := by decide +kernel
theorem dX1_lay_23 : decode cX1_lay 23 = .ok (.aload_n 0, 1) := by decide +kernel
theorem dX1_lay_24 : decode cX1_lay 24 = .ok (.getfield 13, 3) := by decide +kernel
theorem dX1_lay_27 : decode cX1_lay 27 = .ok (.bipush 8, 2) := by decide +kernel
theorem dX1_lay_29 : decode cX1_lay 29 = .ok (.iload_n 1, 1) := by decide +kernel
theorem dX1_lay_30 : decode cX1_lay 30 = .ok (.imul, 1) := by decide +kernel
theorem dX1_lay_31 : decode cX1_lay 31 = .ok (.iload_n 2, 1) := by decide +kernel
theorem dX1_lay_32 : decode cX1_lay 32 = .ok (.iadd, 1) := by decide +kernel
theorem dX1_lay_33 : decode cX1_lay 33 = .ok (.baload, 1) := by decide +kernel
theorem dX1_lay_34 : decode cX1_lay 34 = .ok (.ifCond .eq 5, 3) := by decide +kernel
theorem dX1_lay_37 : decode cX1_lay 37 = .ok (.iconst 0, 1) := by decide +kernel
theorem dX1_lay_38 : decode cX1_lay 38 = .ok (.ireturn, 1) := by decide +kernel
theorem dX1_lay_39 : decode cX1_lay 39 = .ok (.aload_n 0, 1) := by decide +kernel
theorem dX1_lay_40 : decode cX1_lay 40 = .ok (.getfield 13, 3) := by decide +kernel
theorem dX1_lay_43 : decode cX1_lay 43 = .ok (.bipush 8, 2) := by decide +kernel
theorem dX1_lay_45 : decode cX1_lay 45 = .ok (.iload_n 1, 1) := by decide +kernel
theorem dX1_lay_46 : decode cX1_lay 46 = .ok (.imul, 1) := by decide +kernel
theorem dX1_lay_47 : decode cX1_lay 47 = .ok (.iload_n 2, 1) := by decide +kernel
theorem dX1_lay_48 : decode cX1_lay 48 = .ok (.iadd, 1) := by decide +kernel
theorem dX1_lay_49 : decode cX1_lay 49 = .ok (.iconst 1, 1) := by decide +kernel
theorem dX1_lay_50 : decode cX1_lay 50 = .ok (.bastore, 1) := by decide +kernel
theorem dX1_lay_51 : decode cX1_lay 51 = .ok (.iconst 0, 1) := by decide +kernel
theorem dX1_lay_52 : decode cX1_lay 52 = .ok (.istore_n 3, 1) := by decide +kernel
theorem dX1_lay_53 : decode cX1_lay 53 = .ok (.iload_n 3, 1) := by decide +kernel
theorem dX1_lay_54 : decode cX1_lay 54 = .ok (.aload_n 0, 1) := by decide +kernel
theorem dX1_lay_55 : decode cX1_lay 55 = .ok (.getfield 7, 3) := by decide +kernel
theorem dX1_lay_58 : decode cX1_lay 58 = .ok (.if_icmp .ge 109, 3) := by decide +kernel
theorem dX1_lay_61 : decode cX1_lay 61 = .ok (.iconst 0, 1) := by decide +kernel
theorem dX1_lay_62 : decode cX1_lay 62 = .ok (.istore 4, 2) := by decide +kernel
theorem dX1_lay_64 : decode cX1_lay 64 = .ok (.iload 4, 2) := by decide +kernel
theorem dX1_lay_66 : decode cX1_lay 66 = .ok (.aload_n 0, 1) := by decide +kernel
theorem dX1_lay_67 : decode cX1_lay 67 = .ok (.getfield 7, 3) := by decide +kernel
theorem dX1_lay_70 : decode cX1_lay 70 = .ok (.if_icmp .ge 91, 3) := by decide +kernel
theorem dX1_lay_73 : decode cX1_lay 73 = .ok (.iconst 0, 1) := by decide +kernel
theorem dX1_lay_74 : decode cX1_lay 74 = .ok (.istore 5, 2) := by decide +kernel
theorem dX1_lay_76 : decode cX1_lay 76 = .ok (.iload 5, 2) := by decide +kernel
theorem dX1_lay_78 : decode cX1_lay 78 = .ok (.aload_n 0, 1) := by decide +kernel
theorem dX1_lay_79 : decode cX1_lay 79 = .ok (.getfield 7, 3) := by decide +kernel
theorem dX1_lay_82 : decode cX1_lay 82 = .ok (.if_icmp .ge 73, 3) := by decide +kernel
theorem dX1_lay_85 : decode cX1_lay 85 = .ok (.aload_n 0, 1) := by decide +kernel
theorem dX1_lay_86 : decode cX1_lay 86 = .ok (.getfield 13, 3) := by decide +kernel
theorem dX1_lay_89 : decode cX1_lay 89 = .ok (.bipush 8, 2) := by decide +kernel
theorem dX1_lay_91 : decode cX1_lay 91 = .ok (.iload 4, 2) := by decide +kernel
theorem dX1_lay_93 : decode cX1_lay 93 = .ok (.imul, 1) := by decide +kernel
theorem dX1_lay_94 : decode cX1_lay 94 = .ok (.iload 5, 2) := by decide +kernel
theorem dX1_lay_96 : decode cX1_lay 96 = .ok (.iadd, 1) := by decide +kernel
theorem dX1_lay_97 : decode cX1_lay 97 = .ok (.aload_n 0, 1) := by decide +kernel
theorem dX1_lay_98 : decode cX1_lay 98 = .ok (.getfield 13, 3) := by decide +kernel
theorem dX1_lay_101 : decode cX1_lay 101 = .ok (.bipush 8, 2) := by decide +kernel
theorem dX1_lay_103 : decode cX1_lay 103 = .ok (.iload 4, 2) := by decide +kernel
theorem dX1_lay_105 : decode cX1_lay 105 = .ok (.imul, 1) := by decide +kernel
theorem dX1_lay_106 : decode cX1_lay 106 = .ok (.iload 5, 2) := by decide +kernel
theorem dX1_lay_108 : decode cX1_lay 108 = .ok (.iadd, 1) := by decide +kernel
theorem dX1_lay_109 : decode cX1_lay 109 = .ok (.baload, 1) := by decide +kernel
theorem dX1_lay_110 : decode cX1_lay 110 = .ok (.ifCond .ne 33, 3) := by decide +kernel
theorem dX1_lay_113 : decode cX1_lay 113 = .ok (.aload_n 0, 1) := by decide +kernel
theorem dX1_lay_114 : decode cX1_lay 114 = .ok (.getfield 13, 3) := by decide +kernel
theorem dX1_lay_117 : decode cX1_lay 117 = .ok (.bipush 8, 2) := by decide +kernel
theorem dX1_lay_119 : decode cX1_lay 119 = .ok (.iload 4, 2) := by decide +kernel
theorem dX1_lay_121 : decode cX1_lay 121 = .ok (.imul, 1) := by decide +kernel
theorem dX1_lay_122 : decode cX1_lay 122 = .ok (.iload_n 3, 1) := by decide +kernel
theorem dX1_lay_123 : decode cX1_lay 123 = .ok (.iadd, 1) := by decide +kernel
theorem dX1_lay_124 : decode cX1_lay 124 = .ok (.baload, 1) := by decide +kernel
theorem dX1_lay_125 : decode cX1_lay 125 = .ok (.ifCond .eq 22, 3) := by decide +kernel
theorem dX1_lay_128 : decode cX1_lay 128 = .ok (.aload_n 0, 1) := by decide +kernel
theorem dX1_lay_129 : decode cX1_lay 129 = .ok (.getfield 13, 3) := by decide +kernel
theorem dX1_lay_132 : decode cX1_lay 132 = .ok (.bipush 8, 2) := by decide +kernel
theorem dX1_lay_134 : decode cX1_lay 134 = .ok (.iload_n 3, 1) := by decide +kernel
theorem dX1_lay_135 : decode cX1_lay 135 = .ok (.imul, 1) := by decide +kernel
theorem dX1_lay_136 : decode cX1_lay 136 = .ok (.iload 5, 2) := by decide +kernel
theorem dX1_lay_138 : decode cX1_lay 138 = .ok (.iadd, 1) := by decide +kernel
theorem dX1_lay_139 : decode cX1_lay 139 = .ok (.baload, 1) := by decide +kernel
theorem dX1_lay_140 : decode cX1_lay 140 = .ok (.ifCond .eq 7, 3) := by decide +kernel
theorem dX1_lay_143 : decode cX1_lay 143 = .ok (.iconst 1, 1) := by decide +kernel
theorem dX1_lay_144 : decode cX1_lay 144 = .ok (.goto 4, 3) := by decide +kernel
theorem dX1_lay_147 : decode cX1_lay 147 = .ok (.iconst 0, 1) := by decide +kernel
theorem dX1_lay_148 : decode cX1_lay 148 = .ok (.bastore, 1) := by decide +kernel
theorem dX1_lay_149 : decode cX1_lay 149 = .ok (.iinc 5 1, 3) := by decide +kernel
theorem dX1_lay_152 : decode cX1_lay 152 = .ok (.goto (-76), 3) := by decide +kernel
theorem dX1_lay_155 : decode cX1_lay 155 = .ok (.iinc 4 1, 3) := by decide +kernel
theorem dX1_lay_158 : decode cX1_lay 158 = .ok (.goto (-94), 3) := by decide +kernel
theorem dX1_lay_161 : decode cX1_lay 161 = .ok (.iinc 3 1, 3) := by decide +kernel
theorem dX1_lay_164 : decode cX1_lay 164 = .ok (.goto (-111), 3) := by decide +kernel
theorem dX1_lay_167 : decode cX1_lay 167 = .ok (.iconst 1, 1) := by decide +kernel
theorem dX1_lay_168 : decode cX1_lay 168 = .ok (.ireturn, 1) := by decide +kernel
set_option maxRecDepth 20000 in
theorem ggX1_below_X1_isThing : GoodIn wsX1_below wsX1_isThing := goodIn_r _ [6, 7, 8, 9, 5, 10, 11, 12, 13, 14, 15, 16, 17, 18, 19] (by decide +kernel) (by decide +kernel)
set_option maxRecDepth 20000 in
theorem gX1_below_X1_isThing : GoodIn wsX1_below (wsV RX1 40 RX1 yX1_isThing wsX1_isThing) := goodIn_app (goodIn_of _ (by decide +kernel)) ggX1_below_X1_isThing
theorem dX1_below_0 : decode cX1_below 0 = .ok (.aload_n 0, 1) := by decide +kernel
theorem dX1_below_1 : decode cX1_below 1 = .ok (.iload_n 1, 1) := by decide +kernel
theorem dX1_below_2 : decode cX1_below 2 = .ok (.invokevirtual 40, 3) := by decide +kernel
theorem dX1_below_5 : decode cX1_below 5 = .ok (.ifCond .eq 11, 3) := by decide +kernel
theorem dX1_below_8 : decode cX1_below 8 = .ok (.aload_n 0, 1) := by decide +kernel
theorem dX1_below_9 : decode cX1_below 9 = .ok (.iload_n 2, 1) := by decide +kernel
theorem dX1_below_10 : decode cX1_below 10 = .ok (.invokevirtual 40, 3) := by decide +kernel
theorem dX1_below_13 : decode cX1_below 13 = .ok (.ifCond .ne 7, 3) := by decide +kernel
theorem dX1_below_16 : decode cX1_below 16 = .ok (.iconst (-1), 1) := by decide +kernel
theorem dX1_below_17 : decode cX1_below 17 = .ok (.goto 22, 3) := by decide +kernel
theorem dX1_below_20 : decode cX1_below 20 = .ok (.aload_n 0, 1) := by decide +kernel
theorem dX1_below_21 : decode cX1_below 21 = .ok (.getfield 13, 3) := by decide +kernel
theorem dX1_below_24 : decode cX1_below 24 = .ok (.bipush 8, 2) := by decide +kernel
theorem dX1_below_26 : decode cX1_below 26 = .ok (.iload_n 1, 1) := by decide +kernel
theorem dX1_below_27 : decode cX1_below 27 = .ok (.imul, 1) := by decide +kernel
theorem dX1_below_28 : decode cX1_below 28 = .ok (.iload_n 2, 1) := by decide +kernel
theorem dX1_below_29 : decode cX1_below 29 = .ok (.iadd, 1) := by decide +kernel
theorem dX1_below_30 : decode cX1_below 30 = .ok (.baload, 1) := by decide +kernel
theorem dX1_below_31 : decode cX1_below 31 = .ok (.ifCond .eq 7, 3) := by decide +kernel
theorem dX1_below_34 : decode cX1_below 34 = .ok (.iconst 1, 1) := by decide +kernel
theorem dX1_below_35 : decode cX1_below 35 = .ok (.goto 4, 3) := by decide +kernel
theorem dX1_below_38 : decode cX1_below 38 = .ok (.iconst 0, 1) := by decide +kernel
theorem dX1_below_39 : decode cX1_below 39 = .ok (.ireturn, 1) := by decide +kernel
set_option maxRecDepth 20000 in
theorem ggX1_weight_X1_isThing : GoodIn wsX1_weight wsX1_isThing := goodIn_r _ [7, 8, 9, 10, 6, 11, 12, 13, 14, 15, 16, 17, 18, 19, 20] (by decide +kernel) (by decide +kernel)
set_option maxRecDepth 20000 in
theorem gX1_weight_X1_isThing : GoodIn wsX1_weight (wsV RX1 40 RX1 yX1_isThing wsX1_isThing) := goodIn_app (goodIn_of _ (by decide +kernel)) ggX1_weight_X1_isThing
set_option maxRecDepth 20000 in
theorem ggX1_weight_X1_in : GoodIn wsX1_weight wsX1_in := goodIn_r _ [11] (by decide +kernel) (by decide +kernel)
set_option maxRecDepth 20000 in
theorem gX1_weight_X1_in : GoodIn wsX1_weight (va_wsS RX1 36 yX1_in wsX1_in) := goodIn_app (goodIn_of _ (by decide +kernel)) ggX1_weight_X1_in
theorem dX1_weight_0 : decode cX1_weight 0 = .ok (.aload_n 0, 1) := by decide +kernel
theorem dX1_weight_1 : decode cX1_weight 1 = .ok (.iload_n 1, 1) := by decide +kernel
theorem dX1_weight_2 : decode cX1_weight 2 = .ok (.invokevirtual 40, 3) := by decide +kernel
theorem dX1_weight_5 : decode cX1_weight 5 = .ok (.ifCond .eq 14, 3) := by decide +kernel
theorem dX1_weight_8 : decode cX1_weight 8 = .ok (.iload_n 2, 1) := by decide +kernel
theorem dX1_weight_9 : decode cX1_weight 9 = .ok (.bipush (-9), 2) := by decide +kernel
theorem dX1_weight_11 : decode cX1_weight 11 = .ok (.bipush 9, 2) := by decide +kernel
theorem dX1_weight_13 : decode cX1_weight 13 = .ok (.invokestatic 36, 3) := by decide +kernel
theorem dX1_weight_16 : decode cX1_weight 16 = .ok (.ifCond .ne 6, 3) := by decide +kernel
theorem dX1_weight_19 : decode cX1_weight 19 = .ok (.ldc 44, 2) := by decide +kernel
theorem dX1_weight_21 : decode cX1_weight 21 = .ok (.ireturn, 1) := by decide +kernel
theorem dX1_weight_22 : decode cX1_weight 22 = .ok (.aload_n 0, 1) := by decide +kernel
theorem dX1_weight_23 : decode cX1_weight 23 = .ok (.getfield 17, 3) := by decide +kernel
theorem dX1_weight_26 : decode cX1_weight 26 = .ok (.iload_n 1, 1) := by decide +kernel
theorem dX1_weight_27 : decode cX1_weight 27 = .ok (.iaload, 1) := by decide +kernel
theorem dX1_weight_28 : decode cX1_weight 28 = .ok (.istore_n 3, 1) := by decide +kernel
theorem dX1_weight_29 : decode cX1_weight 29 = .ok (.aload_n 0, 1) := by decide +kernel
theorem dX1_weight_30 : decode cX1_weight 30 = .ok (.getfield 17, 3) := by decide +kernel
theorem dX1_weight_33 : decode cX1_weight 33 = .ok (.iload_n 1, 1) := by decide +kernel
theorem dX1_weight_34 : decode cX1_weight 34 = .ok (.iload_n 2, 1) := by decide +kernel
theorem dX1_weight_35 : decode cX1_weight 35 = .ok (.iastore, 1) := by decide +kernel
theorem dX1_weight_36 : decode cX1_weight 36 = .ok (.iload_n 3, 1) := by decide +kernel
theorem dX1_weight_37 : decode cX1_weight 37 = .ok (.ireturn, 1) := by decide +kernel
set_option maxRecDepth 20000 in
theorem ggX1_say_X1_isThing : GoodIn wsX1_say wsX1_isThing := goodIn_r _ [7, 8, 9, 10, 6, 11, 12, 13, 14, 15, 16, 17, 18, 19, 20] (by decide +kernel) (by decide +kernel)
set_option maxRecDepth 20000 in
theorem gX1_say_X1_isThing : GoodIn wsX1_say (wsV RX1 40 RX1 yX1_isThing wsX1_isThing) := goodIn_app (goodIn_of _ (by decide +kernel)) ggX1_say_X1_isThing
theorem dX1_say_0 : decode cX1_say 0 = .ok (.aload_n 0, 1) := by decide +kernel
theorem dX1_say_1 : decode cX1_say 1 = .ok (.iload_n 1, 1) := by decide +kernel
theorem dX1_say_2 : decode cX1_say 2 = .ok (.invokevirtual 40, 3) := by decide +kernel
theorem dX1_say_5 : decode cX1_say 5 = .ok (.ifCond .ne 5, 3) := by decide +kernel
theorem dX1_say_8 : decode cX1_say 8 = .ok (.iconst (-1), 1) := by decide +kernel
theorem dX1_say_9 : decode cX1_say 9 = .ok (.ireturn, 1) := by decide +kernel
theorem dX1_say_10 : decode cX1_say 10 = .ok (.aload_n 0, 1) := by decide +kernel
theorem dX1_say_11 : decode cX1_say 11 = .ok (.getfield 33, 3) := by decide +kernel
theorem dX1_say_14 : decode cX1_say 14 = .ok (.bipush 16, 2) := by decide +kernel
theorem dX1_say_16 : decode cX1_say 16 = .ok (.if_icmp .ne 6, 3) := by decide +kernel
theorem dX1_say_19 : decode cX1_say 19 = .ok (.bipush (-3), 2) := by decide +kernel
theorem dX1_say_21 : decode cX1_say 21 = .ok (.ireturn, 1) := by decide +kernel
theorem dX1_say_22 : decode cX1_say 22 = .ok (.aload_n 0, 1) := by decide +kernel
theorem dX1_say_23 : decode cX1_say 23 = .ok (.getfield 21, 3) := by decide +kernel
theorem dX1_say_26 : decode cX1_say 26 = .ok (.aload_n 0, 1) := by decide +kernel
theorem dX1_say_27 : decode cX1_say 27 = .ok (.getfield 33, 3) := by decide +kernel
theorem dX1_say_30 : decode cX1_say 30 = .ok (.iload_n 1, 1) := by decide +kernel
theorem dX1_say_31 : decode cX1_say 31 = .ok (.iastore, 1) := by decide +kernel
theorem dX1_say_32 : decode cX1_say 32 = .ok (.aload_n 0, 1) := by decide +kernel
theorem dX1_say_33 : decode cX1_say 33 = .ok (.dup, 1) := by decide +kernel
theorem dX1_say_34 : decode cX1_say 34 = .ok (.getfield 33, 3) := by decide +kernel
theorem dX1_say_37 : decode cX1_say 37 = .ok (.iconst 1, 1) := by decide +kernel
theorem dX1_say_38 : decode cX1_say 38 = .ok (.iadd, 1) := by decide +kernel
theorem dX1_say_39 : decode cX1_say 39 = .ok (.putfield 33, 3) := by decide +kernel
theorem dX1_say_42 : decode cX1_say 42 = .ok (.aload_n 0, 1) := by decide +kernel
theorem dX1_say_43 : decode cX1_say 43 = .ok (.getfield 33, 3) := by decide +kernel
theorem dX1_say_46 : decode cX1_say 46 = .ok (.ireturn, 1) := by decide +kernel
theorem dX1_hush_0 : decode cX1_hush 0 = .ok (.aload_n 0, 1) := by decide +kernel
theorem dX1_hush_1 : decode cX1_hush 1 = .ok (.getfield 33, 3) := by decide +kernel
theorem dX1_hush_4 : decode cX1_hush 4 = .ok (.istore_n 1, 1) := by decide +kernel
theorem dX1_hush_5 : decode cX1_hush 5 = .ok (.aload_n 0, 1) := by decide +kernel
theorem dX1_hush_6 : decode cX1_hush 6 = .ok (.iconst 0, 1) := by decide +kernel
theorem dX1_hush_7 : decode cX1_hush 7 = .ok (.putfield 33, 3) := by decide +kernel
theorem dX1_hush_10 : decode cX1_hush 10 = .ok (.iload_n 1, 1) := by decide +kernel
theorem dX1_hush_11 : decode cX1_hush 11 = .ok (.ireturn, 1) := by decide +kernel
theorem dX1_has_0 : decode cX1_has 0 = .ok (.iload_n 0, 1) := by decide +kernel
theorem dX1_has_1 : decode cX1_has 1 = .ok (.iload_n 1, 1) := by decide +kernel
theorem dX1_has_2 : decode cX1_has 2 = .ok (.ishr, 1) := by decide +kernel
theorem dX1_has_3 : decode cX1_has 3 = .ok (.iconst 1, 1) := by decide +kernel
theorem dX1_has_4 : decode cX1_has 4 = .ok (.iand, 1) := by decide +kernel
theorem dX1_has_5 : decode cX1_has 5 = .ok (.iconst 1, 1) := by decide +kernel
theorem dX1_has_6 : decode cX1_has 6 = .ok (.if_icmp .ne 7, 3) := by decide +kernel
theorem dX1_has_9 : decode cX1_has 9 = .ok (.iconst 1, 1) := by decide +kernel
theorem dX1_has_10 : decode cX1_has 10 = .ok (.goto 4, 3) := by decide +kernel
theorem dX1_has_13 : decode cX1_has 13 = .ok (.iconst 0, 1) := by decide +kernel
theorem dX1_has_14 : decode cX1_has 14 = .ok (.ireturn, 1) := by decide +kernel
set_option maxRecDepth 20000 in
theorem ggX1_isHeap_X1_in : GoodIn wsX1_isHeap wsX1_in := goodIn_r _ [6] (by decide +kernel) (by decide +kernel)
set_option maxRecDepth 20000 in
theorem gX1_isHeap_X1_in : GoodIn wsX1_isHeap (va_wsS RX1 36 yX1_in wsX1_in) := goodIn_app (goodIn_of _ (by decide +kernel)) ggX1_isHeap_X1_in
set_option maxRecDepth 20000 in
theorem ggX1_isHeap_X1_has : GoodIn wsX1_isHeap wsX1_has := goodIn_r _ [9] (by decide +kernel) (by decide +kernel)
set_option maxRecDepth 20000 in
theorem gX1_isHeap_X1_has : GoodIn wsX1_isHeap (va_wsS RX1 45 yX1_has wsX1_has) := goodIn_app (goodIn_of _ (by decide +kernel)) ggX1_isHeap_X1_has
theorem dX1_isHeap_0 : decode cX1_isHeap 0 = .ok (.iload_n 1, 1) := by decide +kernel
theorem dX1_isHeap_1 : decode cX1_isHeap 1 = .ok (.iconst 0, 1) := by decide +kernel
end
section
theorem dX1_isHeap_2 : decode cX1_isHeap 2 = .ok (.iconst 1, 1) := by decide +kernel
theorem dX1_isHeap_3 : decode cX1_isHeap 3 = .ok (.aload_n 0, 1) := by decide +kernel
theorem dX1_isHeap_4 : decode cX1_isHeap 4 = .ok (.getfield 7, 3) := by decide +kernel
theorem dX1_isHeap_7 : decode cX1_isHeap 7 = .ok (.ishl, 1) := by decide +kernel
theorem dX1_isHeap_8 : decode cX1_isHeap 8 = .ok (.iconst 1, 1) := by decide +kernel
theorem dX1_isHeap_9 : decode cX1_isHeap 9 = .ok (.isub, 1) := by decide +kernel
theorem dX1_isHeap_10 : decode cX1_isHeap 10 = .ok (.invokestatic 36, 3) := by decide +kernel
theorem dX1_isHeap_13 : decode cX1_isHeap 13 = .ok (.ifCond .ne 5, 3) := by decide +kernel
theorem dX1_isHeap_16 : decode cX1_isHeap 16 = .ok (.iconst 0, 1) := by decide +kernel
theorem dX1_isHeap_17 : decode cX1_isHeap 17 = .ok (.ireturn, 1) := by decide +kernel
theorem dX1_isHeap_18 : decode cX1_isHeap 18 = .ok (.iconst 1, 1) := by decide +kernel
theorem dX1_isHeap_19 : decode cX1_isHeap 19 = .ok (.istore_n 2, 1) := by decide +kernel
theorem dX1_isHeap_20 : decode cX1_isHeap 20 = .ok (.iconst 0, 1) := by decide +kernel
theorem dX1_isHeap_21 : decode cX1_isHeap 21 = .ok (.istore_n 3, 1) := by decide +kernel
theorem dX1_isHeap_22 : decode cX1_isHeap 22 = .ok (.iload_n 3, 1) := by decide +kernel
theorem dX1_isHeap_23 : decode cX1_isHeap 23 = .ok (.aload_n 0, 1) := by decide +kernel
theorem dX1_isHeap_24 : decode cX1_isHeap 24 = .ok (.getfield 7, 3) := by decide +kernel
theorem dX1_isHeap_27 : decode cX1_isHeap 27 = .ok (.if_icmp .ge 69, 3) := by decide +kernel
theorem dX1_isHeap_30 : decode cX1_isHeap 30 = .ok (.iconst 0, 1) := by decide +kernel
theorem dX1_isHeap_31 : decode cX1_isHeap 31 = .ok (.istore 4, 2) := by decide +kernel
theorem dX1_isHeap_33 : decode cX1_isHeap 33 = .ok (.iload 4, 2) := by decide +kernel
theorem dX1_isHeap_35 : decode cX1_isHeap 35 = .ok (.aload_n 0, 1) := by decide +kernel
theorem dX1_isHeap_36 : decode cX1_isHeap 36 = .ok (.getfield 7, 3) := by decide +kernel
theorem dX1_isHeap_39 : decode cX1_isHeap 39 = .ok (.if_icmp .ge 51, 3) := by decide +kernel
theorem dX1_isHeap_42 : decode cX1_isHeap 42 = .ok (.iload_n 2, 1) := by decide +kernel
theorem dX1_isHeap_43 : decode cX1_isHeap 43 = .ok (.ifCond .eq 39, 3) := by decide +kernel
theorem dX1_isHeap_46 : decode cX1_isHeap 46 = .ok (.aload_n 0, 1) := by decide +kernel
theorem dX1_isHeap_47 : decode cX1_isHeap 47 = .ok (.getfield 13, 3) := by decide +kernel
theorem dX1_isHeap_50 : decode cX1_isHeap 50 = .ok (.bipush 8, 2) := by decide +kernel
theorem dX1_isHeap_52 : decode cX1_isHeap 52 = .ok (.iload_n 3, 1) := by decide +kernel
theorem dX1_isHeap_53 : decode cX1_isHeap 53 = .ok (.imul, 1) := by decide +kernel
theorem dX1_isHeap_54 : decode cX1_isHeap 54 = .ok (.iload 4, 2) := by decide +kernel
theorem dX1_isHeap_56 : decode cX1_isHeap 56 = .ok (.iadd, 1) := by decide +kernel
theorem dX1_isHeap_57 : decode cX1_isHeap 57 = .ok (.baload, 1) := by decide +kernel
theorem dX1_isHeap_58 : decode cX1_isHeap 58 = .ok (.ifCond .eq 20, 3) := by decide +kernel
theorem dX1_isHeap_61 : decode cX1_isHeap 61 = .ok (.iload_n 1, 1) := by decide +kernel
theorem dX1_isHeap_62 : decode cX1_isHeap 62 = .ok (.iload 4, 2) := by decide +kernel
theorem dX1_isHeap_64 : decode cX1_isHeap 64 = .ok (.invokestatic 45, 3) := by decide +kernel
theorem dX1_isHeap_67 : decode cX1_isHeap 67 = .ok (.ifCond .eq 11, 3) := by decide +kernel
theorem dX1_isHeap_70 : decode cX1_isHeap 70 = .ok (.iload_n 1, 1) := by decide +kernel
theorem dX1_isHeap_71 : decode cX1_isHeap 71 = .ok (.iload_n 3, 1) := by decide +kernel
theorem dX1_isHeap_72 : decode cX1_isHeap 72 = .ok (.invokestatic 45, 3) := by decide +kernel
theorem dX1_isHeap_75 : decode cX1_isHeap 75 = .ok (.ifCond .eq 7, 3) := by decide +kernel
theorem dX1_isHeap_78 : decode cX1_isHeap 78 = .ok (.iconst 1, 1) := by decide +kernel
theorem dX1_isHeap_79 : decode cX1_isHeap 79 = .ok (.goto 4, 3) := by decide +kernel
theorem dX1_isHeap_82 : decode cX1_isHeap 82 = .ok (.iconst 0, 1) := by decide +kernel
theorem dX1_isHeap_83 : decode cX1_isHeap 83 = .ok (.istore_n 2, 1) := by decide +kernel
theorem dX1_isHeap_84 : decode cX1_isHeap 84 = .ok (.iinc 4 1, 3) := by decide +kernel
theorem dX1_isHeap_87 : decode cX1_isHeap 87 = .ok (.goto (-54), 3) := by decide +kernel
theorem dX1_isHeap_90 : decode cX1_isHeap 90 = .ok (.iinc 3 1, 3) := by decide +kernel
theorem dX1_isHeap_93 : decode cX1_isHeap 93 = .ok (.goto (-71), 3) := by decide +kernel
theorem dX1_isHeap_96 : decode cX1_isHeap 96 = .ok (.iload_n 2, 1) := by decide +kernel
theorem dX1_isHeap_97 : decode cX1_isHeap 97 = .ok (.ireturn, 1) := by decide +kernel
set_option maxRecDepth 20000 in
theorem ggX1_heap_X1_in : GoodIn wsX1_heap wsX1_in := goodIn_r _ [5] (by decide +kernel) (by decide +kernel)
set_option maxRecDepth 20000 in
theorem gX1_heap_X1_in : GoodIn wsX1_heap (va_wsS RX1 36 yX1_in wsX1_in) := goodIn_app (goodIn_of _ (by decide +kernel)) ggX1_heap_X1_in
set_option maxRecDepth 20000 in
theorem ggX1_heap_X1_isHeap : GoodIn wsX1_heap wsX1_isHeap := goodIn_r _ [9, 1, 10, 2, 3, 4, 5, 11, 12, 13, 14, 15, 16, 17, 18, 19, 20, 21, 22] (by decide +kernel) (by decide +kernel)
set_option maxRecDepth 20000 in
theorem gX1_heap_X1_isHeap : GoodIn wsX1_heap (wsV RX1 49 RX1 yX1_isHeap wsX1_isHeap) := goodIn_app (goodIn_of _ (by decide +kernel)) ggX1_heap_X1_isHeap
theorem dX1_heap_0 : decode cX1_heap 0 = .ok (.iload_n 1, 1) := by decide +kernel
theorem dX1_heap_1 : decode cX1_heap 1 = .ok (.iconst 0, 1) := by decide +kernel
theorem dX1_heap_2 : decode cX1_heap 2 = .ok (.iconst 1, 1) := by decide +kernel
theorem dX1_heap_3 : decode cX1_heap 3 = .ok (.aload_n 0, 1) := by decide +kernel
theorem dX1_heap_4 : decode cX1_heap 4 = .ok (.getfield 7, 3) := by decide +kernel
theorem dX1_heap_7 : decode cX1_heap 7 = .ok (.ishl, 1) := by decide +kernel
theorem dX1_heap_8 : decode cX1_heap 8 = .ok (.iconst 1, 1) := by decide +kernel
theorem dX1_heap_9 : decode cX1_heap 9 = .ok (.isub, 1) := by decide +kernel
theorem dX1_heap_10 : decode cX1_heap 10 = .ok (.invokestatic 36, 3) := by decide +kernel
theorem dX1_heap_13 : decode cX1_heap 13 = .ok (.ifCond .ne 7, 3) := by decide +kernel
theorem dX1_heap_16 : decode cX1_heap 16 = .ok (.iconst (-1), 1) := by decide +kernel
theorem dX1_heap_17 : decode cX1_heap 17 = .ok (.goto 16, 3) := by decide +kernel
theorem dX1_heap_20 : decode cX1_heap 20 = .ok (.aload_n 0, 1) := by decide +kernel
theorem dX1_heap_21 : decode cX1_heap 21 = .ok (.iload_n 1, 1) := by decide +kernel
theorem dX1_heap_22 : decode cX1_heap 22 = .ok (.invokevirtual 49, 3) := by decide +kernel
theorem dX1_heap_25 : decode cX1_heap 25 = .ok (.ifCond .eq 7, 3) := by decide +kernel
theorem dX1_heap_28 : decode cX1_heap 28 = .ok (.iconst 1, 1) := by decide +kernel
theorem dX1_heap_29 : decode cX1_heap 29 = .ok (.goto 4, 3) := by decide +kernel
theorem dX1_heap_32 : decode cX1_heap 32 = .ok (.iconst 0, 1) := by decide +kernel
theorem dX1_heap_33 : decode cX1_heap 33 = .ok (.ireturn, 1) := by decide +kernel
set_option maxRecDepth 20000 in
theorem ggX1_many_X1_isHeap : GoodIn wsX1_many wsX1_isHeap := goodIn_r _ [6, 1, 7, 8, 9, 5, 10, 11, 12, 13, 14, 15, 16, 17, 18, 19, 20, 21, 22] (by decide +kernel) (by decide +kernel)
set_option maxRecDepth 20000 in
theorem gX1_many_X1_isHeap : GoodIn wsX1_many (wsV RX1 49 RX1 yX1_isHeap wsX1_isHeap) := goodIn_app (goodIn_of _ (by decide +kernel)) ggX1_many_X1_isHeap
theorem dX1_many_0 : decode cX1_many 0 = .ok (.iconst 0, 1) := by decide +kernel
theorem dX1_many_1 : decode cX1_many 1 = .ok (.istore_n 1, 1) := by decide +kernel
theorem dX1_many_2 : decode cX1_many 2 = .ok (.iconst 0, 1) := by decide +kernel
theorem dX1_many_3 : decode cX1_many 3 = .ok (.istore_n 2, 1) := by decide +kernel
theorem dX1_many_4 : decode cX1_many 4 = .ok (.iload_n 2, 1) := by decide +kernel
theorem dX1_many_5 : decode cX1_many 5 = .ok (.iconst 1, 1) := by decide +kernel
theorem dX1_many_6 : decode cX1_many 6 = .ok (.aload_n 0, 1) := by decide +kernel
theorem dX1_many_7 : decode cX1_many 7 = .ok (.getfield 7, 3) := by decide +kernel
theorem dX1_many_10 : decode cX1_many 10 = .ok (.ishl, 1) := by decide +kernel
theorem dX1_many_11 : decode cX1_many 11 = .ok (.if_icmp .ge 25, 3) := by decide +kernel
theorem dX1_many_14 : decode cX1_many 14 = .ok (.iload_n 1, 1) := by decide +kernel
theorem dX1_many_15 : decode cX1_many 15 = .ok (.aload_n 0, 1) := by decide +kernel
theorem dX1_many_16 : decode cX1_many 16 = .ok (.iload_n 2, 1) := by decide +kernel
theorem dX1_many_17 : decode cX1_many 17 = .ok (.invokevirtual 49, 3) := by decide +kernel
theorem dX1_many_20 : decode cX1_many 20 = .ok (.ifCond .eq 7, 3) := by decide +kernel
theorem dX1_many_23 : decode cX1_many 23 = .ok (.iconst 1, 1) := by decide +kernel
theorem dX1_many_24 : decode cX1_many 24 = .ok (.goto 4, 3) := by decide +kernel
theorem dX1_many_27 : decode cX1_many 27 = .ok (.iconst 0, 1) := by decide +kernel
theorem dX1_many_28 : decode cX1_many 28 = .ok (.iadd, 1) := by decide +kernel
theorem dX1_many_29 : decode cX1_many 29 = .ok (.istore_n 1, 1) := by decide +kernel
theorem dX1_many_30 : decode cX1_many 30 = .ok (.iinc 2 1, 3) := by decide +kernel
theorem dX1_many_33 : decode cX1_many 33 = .ok (.goto (-29), 3) := by decide +kernel
theorem dX1_many_36 : decode cX1_many 36 = .ok (.iload_n 1, 1) := by decide +kernel
theorem dX1_many_37 : decode cX1_many 37 = .ok (.ireturn, 1) := by decide +kernel
set_option maxRecDepth 20000 in
theorem ggX1_flipped_X1_isHeap : GoodIn wsX1_flipped wsX1_isHeap := goodIn_r _ [5, 6, 7, 8, 9, 4, 10, 11, 12, 13, 14, 15, 16, 17, 18, 19, 20, 21, 22] (by decide +kernel) (by decide +kernel)
set_option maxRecDepth 20000 in
theorem gX1_flipped_X1_isHeap : GoodIn wsX1_flipped (wsV RX1 49 RX1 yX1_isHeap wsX1_isHeap) := goodIn_app (goodIn_of _ (by decide +kernel)) ggX1_flipped_X1_isHeap
theorem dX1_flipped_0 : decode cX1_flipped 0 = .ok (.iload_n 1, 1) := by decide +kernel
theorem dX1_flipped_1 : decode cX1_flipped 1 = .ok (.iconst 1, 1) := by decide +kernel
theorem dX1_flipped_2 : decode cX1_flipped 2 = .ok (.iload_n 2, 1) := by decide +kernel
theorem dX1_flipped_3 : decode cX1_flipped 3 = .ok (.ishl, 1) := by decide +kernel
theorem dX1_flipped_4 : decode cX1_flipped 4 = .ok (.ixor, 1) := by decide +kernel
theorem dX1_flipped_5 : decode cX1_flipped 5 = .ok (.istore_n 3, 1) := by decide +kernel
theorem dX1_flipped_6 : decode cX1_flipped 6 = .ok (.aload_n 0, 1) := by decide +kernel
theorem dX1_flipped_7 : decode cX1_flipped 7 = .ok (.iload_n 3, 1) := by decide +kernel
theorem dX1_flipped_8 : decode cX1_flipped 8 = .ok (.invokevirtual 49, 3) := by decide +kernel
theorem dX1_flipped_11 : decode cX1_flipped 11 = .ok (.ifCond .eq 7, 3) := by decide +kernel
theorem dX1_flipped_14 : decode cX1_flipped 14 = .ok (.iload_n 3, 1) := by decide +kernel
theorem dX1_flipped_15 : decode cX1_flipped 15 = .ok (.goto 4, 3) := by decide +kernel
theorem dX1_flipped_18 : decode cX1_flipped 18 = .ok (.iload_n 1, 1) := by decide +kernel
theorem dX1_flipped_19 : decode cX1_flipped 19 = .ok (.ireturn, 1) := by decide +kernel
set_option maxRecDepth 20000 in
theorem ggX1_flip_X1_isHeap : GoodIn wsX1_flip wsX1_isHeap := goodIn_r _ [5, 6, 7, 8, 9, 4, 10, 11, 12, 13, 22, 23, 24, 25, 26, 27, 28, 29, 30] (by decide +kernel) (by decide +kernel)
set_option maxRecDepth 20000 in
theorem gX1_flip_X1_isHeap : GoodIn wsX1_flip (wsV RX1 49 RX1 yX1_isHeap wsX1_isHeap) := goodIn_app (goodIn_of _ (by decide +kernel)) ggX1_flip_X1_isHeap
set_option maxRecDepth 20000 in
theorem ggX1_flip_X1_isThing : GoodIn wsX1_flip wsX1_isThing := goodIn_r _ [17, 6, 8, 9, 4, 10, 22, 23, 24, 25, 26, 27, 28, 29, 30] (by decide +kernel) (by decide +kernel)
set_option maxRecDepth 20000 in
theorem gX1_flip_X1_isThing : GoodIn wsX1_flip (wsV RX1 40 RX1 yX1_isThing wsX1_isThing) := goodIn_app (goodIn_of _ (by decide +kernel)) ggX1_flip_X1_isThing
set_option maxRecDepth 20000 in
theorem ggX1_flip_X1_flipped : GoodIn wsX1_flip wsX1_flipped := goodIn_r _ [21, 1, 2, 3, 4, 5, 6, 7, 8, 9, 10, 11, 12, 13, 22, 23, 24, 25, 26, 27, 28, 29, 30] (by decide +kernel) (by decide +kernel)
set_option maxRecDepth 20000 in
theorem gX1_flip_X1_flipped : GoodIn wsX1_flip (wsV RX1 52 RX1 yX1_flipped wsX1_flipped) := goodIn_app (goodIn_of _ (by decide +kernel)) ggX1_flip_X1_flipped
theorem dX1_flip_0 : decode cX1_flip 0 = .ok (.aload_n 0, 1) := by decide +kernel
theorem dX1_flip_1 : decode cX1_flip 1 = .ok (.iload_n 1, 1) := by decide +kernel
theorem dX1_flip_2 : decode cX1_flip 2 = .ok (.invokevirtual 49, 3) := by decide +kernel
theorem dX1_flip_5 : decode cX1_flip 5 = .ok (.ifCond .eq 20, 3) := by decide +kernel
theorem dX1_flip_8 : decode cX1_flip 8 = .ok (.aload_n 0, 1) := by decide +kernel
theorem dX1_flip_9 : decode cX1_flip 9 = .ok (.iload_n 2, 1) := by decide +kernel
theorem dX1_flip_10 : decode cX1_flip 10 = .ok (.invokevirtual 40, 3) := by decide +kernel
theorem dX1_flip_13 : decode cX1_flip 13 = .ok (.ifCond .eq 12, 3) := by decide +kernel
theorem dX1_flip_16 : decode cX1_flip 16 = .ok (.aload_n 0, 1) := by decide +kernel
theorem dX1_flip_17 : decode cX1_flip 17 = .ok (.iload_n 1, 1) := by decide +kernel
theorem dX1_flip_18 : decode cX1_flip 18 = .ok (.iload_n 2, 1) := by decide +kernel
theorem dX1_flip_19 : decode cX1_flip 19 = .ok (.invokevirtual 52, 3) := by decide +kernel
theorem dX1_flip_22 : decode cX1_flip 22 = .ok (.goto 4, 3) := by decide +kernel
theorem dX1_flip_25 : decode cX1_flip 25 = .ok (.iconst (-1), 1) := by decide +kernel
theorem dX1_flip_26 : decode cX1_flip 26 = .ok (.ireturn, 1) := by decide +kernel
set_option maxRecDepth 20000 in
theorem ggX1_turned_X1_flipped : GoodIn wsX1_turned wsX1_flipped := goodIn_r _ [9, 10, 11, 12, 8, 13, 3, 4, 14, 15, 16, 17, 18, 19, 20, 21, 22, 23, 24, 25, 26, 27, 28] (by decide +kernel) (by decide +kernel)
set_option maxRecDepth 20000 in
theorem gX1_turned_X1_flipped : GoodIn wsX1_turned (wsV RX1 52 RX1 yX1_flipped wsX1_flipped) := goodIn_app (goodIn_of _ (by decide +kernel)) ggX1_turned_X1_flipped
set_option maxRecDepth 20000 in
theorem ggX1_turned_X1_has : GoodIn wsX1_turned wsX1_has := goodIn_r _ [19] (by decide +kernel) (by decide +kernel)
set_option maxRecDepth 20000 in
theorem gX1_turned_X1_has : GoodIn wsX1_turned (va_wsS RX1 45 yX1_has wsX1_has) := goodIn_app (goodIn_of _ (by decide +kernel)) ggX1_turned_X1_has
theorem dX1_turned_0 : decode cX1_turned 0 = .ok (.iload_n 1, 1) := by decide +kernel
theorem dX1_turned_1 : decode cX1_turned 1 = .ok (.istore_n 3, 1) := by decide +kernel
theorem dX1_turned_2 : decode cX1_turned 2 = .ok (.iload_n 2, 1) := by decide +kernel
theorem dX1_turned_3 : decode cX1_turned 3 = .ok (.iconst 1, 1) := by decide +kernel
theorem dX1_turned_4 : decode cX1_turned 4 = .ok (.if_icmp .ne 36, 3) := by decide +kernel
theorem dX1_turned_7 : decode cX1_turned 7 = .ok (.iconst 0, 1) := by decide +kernel
theorem dX1_turned_8 : decode cX1_turned 8 = .ok (.istore 4, 2) := by decide +kernel
theorem dX1_turned_10 : decode cX1_turned 10 = .ok (.iload 4, 2) := by decide +kernel
theorem dX1_turned_12 : decode cX1_turned 12 = .ok (.aload_n 0, 1) := by decide +kernel
theorem dX1_turned_13 : decode cX1_turned 13 = .ok (.getfield 33, 3) := by decide +kernel
theorem dX1_turned_16 : decode cX1_turned 16 = .ok (.if_icmp .ge 22, 3) := by decide +kernel
theorem dX1_turned_19 : decode cX1_turned 19 = .ok (.aload_n 0, 1) := by decide +kernel
theorem dX1_turned_20 : decode cX1_turned 20 = .ok (.iload_n 3, 1) := by decide +kernel
theorem dX1_turned_21 : decode cX1_turned 21 = .ok (.aload_n 0, 1) := by decide +kernel
theorem dX1_turned_22 : decode cX1_turned 22 = .ok (.getfield 21, 3) := by decide +kernel
theorem dX1_turned_25 : decode cX1_turned 25 = .ok (.iload 4, 2) := by decide +kernel
theorem dX1_turned_27 : decode cX1_turned 27 = .ok (.iaload, 1) := by decide +kernel
theorem dX1_turned_28 : decode cX1_turned 28 = .ok (.invokevirtual 52, 3) := by decide +kernel
theorem dX1_turned_31 : decode cX1_turned 31 = .ok (.istore_n 3, 1) := by decide +kernel
theorem dX1_turned_32 : decode cX1_turned 32 = .ok (.iinc 4 1, 3) := by decide +kernel
theorem dX1_turned_35 : decode cX1_turned 35 = .ok (.goto (-25), 3) := by decide +kernel
theorem dX1_turned_38 : decode cX1_turned 38 = .ok (.iload_n 3, 1) := by decide +kernel
theorem dX1_turned_39 : decode cX1_turned 39 = .ok (.ireturn, 1) := by decide +kernel
theorem dX1_turned_40 : decode cX1_turned 40 = .ok (.iconst 0, 1) := by decide +kernel
theorem dX1_turned_41 : decode cX1_turned 41 = .ok (.istore 4, 2) := by decide +kernel
theorem dX1_turned_43 : decode cX1_turned 43 = .ok (.iconst 0, 1) := by decide +kernel
theorem dX1_turned_44 : decode cX1_turned 44 = .ok (.istore 5, 2) := by decide +kernel
theorem dX1_turned_46 : decode cX1_turned 46 = .ok (.iload 5, 2) := by decide +kernel
theorem dX1_turned_48 : decode cX1_turned 48 = .ok (.aload_n 0, 1) := by decide +kernel
theorem dX1_turned_49 : decode cX1_turned 49 = .ok (.getfield 7, 3) := by decide +kernel
theorem dX1_turned_52 : decode cX1_turned 52 = .ok (.if_icmp .ge 131, 3) := by decide +kernel
theorem dX1_turned_55 : decode cX1_turned 55 = .ok (.iload_n 1, 1) := by decide +kernel
theorem dX1_turned_56 : decode cX1_turned 56 = .ok (.iload 5, 2) := by decide +kernel
theorem dX1_turned_58 : decode cX1_turned 58 = .ok (.invokestatic 45, 3) := by decide +kernel
theorem dX1_turned_61 : decode cX1_turned 61 = .ok (.ifCond .ne 7, 3) := by decide +kernel
theorem dX1_turned_64 : decode cX1_turned 64 = .ok (.iconst 1, 1) := by decide +kernel
theorem dX1_turned_65 : decode cX1_turned 65 = .ok (.goto 4, 3) := by decide +kernel
theorem dX1_turned_68 : decode cX1_turned 68 = .ok (.iconst 0, 1) := by decide +kernel
theorem dX1_turned_69 : decode cX1_turned 69 = .ok (.istore 6, 2) := by decide +kernel
theorem dX1_turned_71 : decode cX1_turned 71 = .ok (.iconst 1, 1) := by decide +kernel
theorem dX1_turned_72 : decode cX1_turned 72 = .ok (.iload 5, 2) := by decide +kernel
theorem dX1_turned_74 : decode cX1_turned 74 = .ok (.ishl, 1) := by decide +kernel
theorem dX1_turned_75 : decode cX1_turned 75 = .ok (.istore 7, 2) := by decide +kernel
theorem dX1_turned_77 : decode cX1_turned 77 = .ok (.iconst 0, 1) := by decide +kernel
theorem dX1_turned_78 : decode cX1_turned 78 = .ok (.istore 8, 2) := by decide +kernel
theorem dX1_turned_80 : decode cX1_turned 80 = .ok (.iload 8, 2) := by decide +kernel
theorem dX1_turned_82 : decode cX1_turned 82 = .ok (.aload_n 0, 1) := by decide +kernel
theorem dX1_turned_83 : decode cX1_turned 83 = .ok (.getfield 7, 3) := by decide +kernel
theorem dX1_turned_86 : decode cX1_turned 86 = .ok (.if_icmp .ge 75, 3) := by decide +kernel
theorem dX1_turned_89 : decode cX1_turned 89 = .ok (.iload 6, 2) := by decide +kernel
theorem dX1_turned_91 : decode cX1_turned 91 = .ok (.ifCond .eq 32, 3) := by decide +kernel
theorem dX1_turned_94 : decode cX1_turned 94 = .ok (.aload_n 0, 1) := by decide +kernel
theorem dX1_turned_95 : decode cX1_turned 95 = .ok (.getfield 13, 3) := by decide +kernel
theorem dX1_turned_98 : decode cX1_turned 98 = .ok (.bipush 8, 2) := by decide +kernel
theorem dX1_turned_100 : decode cX1_turned 100 = .ok (.iload 8, 2) := by decide +kernel
theorem dX1_turned_102 : decode cX1_turned 102 = .ok (.imul, 1) := by decide +kernel
theorem dX1_turned_103 : decode cX1_turned 103 = .ok (.iload 5, 2) := by decide +kernel
theorem dX1_turned_105 : decode cX1_turned 105 = .ok (.iadd, 1) := by decide +kernel
theorem dX1_turned_106 : decode cX1_turned 106 = .ok (.baload, 1) := by decide +kernel
theorem dX1_turned_107 : decode cX1_turned 107 = .ok (.ifCond .eq 12, 3) := by decide +kernel
theorem dX1_turned_110 : decode cX1_turned 110 = .ok (.iload_n 1, 1) := by decide +kernel
theorem dX1_turned_111 : decode cX1_turned 111 = .ok (.iload 8, 2) := by decide +kernel
theorem dX1_turned_113 : decode cX1_turned 113 = .ok (.invokestatic 45, 3) := by decide +kernel
theorem dX1_turned_116 : decode cX1_turned 116 = .ok (.ifCond .eq 7, 3) := by decide +kernel
theorem dX1_turned_119 : decode cX1_turned 119 = .ok (.iconst 1, 1) := by decide +kernel
theorem dX1_turned_120 : decode cX1_turned 120 = .ok (.goto 4, 3) := by decide +kernel
theorem dX1_turned_123 : decode cX1_turned 123 = .ok (.iconst 0, 1) := by decide +kernel
theorem dX1_turned_124 : decode cX1_turned 124 = .ok (.istore 6, 2) := by decide +kernel
theorem dX1_turned_126 : decode cX1_turned 126 = .ok (.iload 7, 2) := by decide +kernel
theorem dX1_turned_128 : decode cX1_turned 128 = .ok (.aload_n 0, 1) := by decide +kernel
theorem dX1_turned_129 : decode cX1_turned 129 = .ok (.getfield 13, 3) := by decide +kernel
theorem dX1_turned_132 : decode cX1_turned 132 = .ok (.bipush 8, 2) := by decide +kernel
theorem dX1_turned_134 : decode cX1_turned 134 = .ok (.iload 8, 2) := by decide +kernel
theorem dX1_turned_136 : decode cX1_turned 136 = .ok (.imul, 1) := by decide +kernel
theorem dX1_turned_137 : decode cX1_turned 137 = .ok (.iload 5, 2) := by decide +kernel
theorem dX1_turned_139 : decode cX1_turned 139 = .ok (.iadd, 1) := by decide +kernel
theorem dX1_turned_140 : decode cX1_turned 140 = .ok (.baload, 1) := by decide +kernel
theorem dX1_turned_141 : decode cX1_turned 141 = .ok (.ifCond .eq 10, 3) := by decide +kernel
theorem dX1_turned_144 : decode cX1_turned 144 = .ok (.iconst 1, 1) := by decide +kernel
theorem dX1_turned_145 : decode cX1_turned 145 = .ok (.iload 8, 2) := by decide +kernel
theorem dX1_turned_147 : decode cX1_turned 147 = .ok (.ishl, 1) := by decide +kernel
theorem dX1_turned_148 : decode cX1_turned 148 = .ok (.goto 4, 3) := by decide +kernel
theorem dX1_turned_151 : decode cX1_turned 151 = .ok (.iconst 0, 1) := by decide +kernel
theorem dX1_turned_152 : decode cX1_turned 152 = .ok (.ior, 1) := by decide +kernel
theorem dX1_turned_153 : decode cX1_turned 153 = .ok (.istore 7, 2) := by decide +kernel
theorem dX1_turned_155 : decode cX1_turned 155 = .ok (.iinc 8 1, 3) := by decide +kernel
theorem dX1_turned_158 : decode cX1_turned 158 = .ok (.goto (-78), 3) := by decide +kernel
theorem dX1_turned_161 : decode cX1_turned 161 = .ok (.iload 4, 2) := by decide +kernel
theorem dX1_turned_163 : decode cX1_turned 163 = .ok (.iload 6, 2) := by decide +kernel
theorem dX1_turned_165 : decode cX1_turned 165 = .ok (.ifCond .eq 8, 3) := by decide +kernel
theorem dX1_turned_168 : decode cX1_turned 168 = .ok (.iload 7, 2) := by decide +kernel
theorem dX1_turned_170 : decode cX1_turned 170 = .ok (.goto 4, 3) := by decide +kernel
theorem dX1_turned_173 : decode cX1_turned 173 = .ok (.iconst 0, 1) := by decide +kernel
theorem dX1_turned_174 : decode cX1_turned 174 = .ok (.ior, 1) := by decide +kernel
theorem dX1_turned_175 : decode cX1_turned 175 = .ok (.istore 4, 2) := by decide +kernel
theorem dX1_turned_177 : decode cX1_turned 177 = .ok (.iinc 5 1, 3) := by decide +kernel
theorem dX1_turned_180 : decode cX1_turned 180 = .ok (.goto (-134), 3) := by decide +kernel
theorem dX1_turned_183 : decode cX1_turned 183 = .ok (.iload 4, 2) := by decide +kernel
theorem dX1_turned_185 : decode cX1_turned 185 = .ok (.ireturn, 1) := by decide +kernel
set_option maxRecDepth 20000 in
theorem ggX1_isKind_X1_in : GoodIn wsX1_isKind wsX1_in := goodIn_r _ [4] (by decide +kernel) (by decide +kernel)
set_option maxRecDepth 20000 in
theorem gX1_isKind_X1_in : GoodIn wsX1_isKind (va_wsS RX1 36 yX1_in wsX1_in) := goodIn_app (goodIn_of _ (by decide +kernel)) ggX1_isKind_X1_in
theorem dX1_isKind_0 : decode cX1_isKind 0 = .ok (.iload_n 0, 1) := by decide +kernel
theorem dX1_isKind_1 : decode cX1_isKind 1 = .ok (.iconst 0, 1) := by decide +kernel
theorem dX1_isKind_2 : decode cX1_isKind 2 = .ok (.iconst 1, 1) := by decide +kernel
theorem dX1_isKind_3 : decode cX1_isKind 3 = .ok (.invokestatic 36, 3) := by decide +kernel
theorem dX1_isKind_6 : decode cX1_isKind 6 = .ok (.ireturn, 1) := by decide +kernel
set_option maxRecDepth 20000 in
theorem ggX1_turn_X1_isHeap : GoodIn wsX1_turn wsX1_isHeap := goodIn_r _ [5, 6, 7, 8, 9, 4, 10, 11, 12, 13, 27, 28, 29, 30, 31, 32, 33, 34, 35] (by decide +kernel) (by decide +kernel)
set_option maxRecDepth 20000 in
theorem gX1_turn_X1_isHeap : GoodIn wsX1_turn (wsV RX1 49 RX1 yX1_isHeap wsX1_isHeap) := goodIn_app (goodIn_of _ (by decide +kernel)) ggX1_turn_X1_isHeap
set_option maxRecDepth 20000 in
theorem ggX1_turn_X1_isKind : GoodIn wsX1_turn wsX1_isKind := goodIn_r _ [16, 8, 9, 4, 10] (by decide +kernel) (by decide +kernel)
set_option maxRecDepth 20000 in
theorem gX1_turn_X1_isKind : GoodIn wsX1_turn (va_wsS RX1 56 yX1_isKind wsX1_isKind) := goodIn_app (goodIn_of _ (by decide +kernel)) ggX1_turn_X1_isKind
set_option maxRecDepth 20000 in
theorem ggX1_turn_X1_in : GoodIn wsX1_turn wsX1_in := goodIn_r _ [10] (by decide +kernel) (by decide +kernel)
set_option maxRecDepth 20000 in
theorem gX1_turn_X1_in : GoodIn wsX1_turn (va_wsS RX1 36 yX1_in wsX1_in) := goodIn_app (goodIn_of _ (by decide +kernel)) ggX1_turn_X1_in
set_option maxRecDepth 20000 in
theorem ggX1_turn_X1_turned : GoodIn wsX1_turn wsX1_turned := goodIn_r _ [20, 21, 22, 6, 7, 23, 24, 25, 4, 26, 1, 2, 3, 5, 8, 9, 10, 11, 12, 13, 27, 28, 29, 30, 31, 32, 33, 34, 35] (by decide +kernel) (by decide +kernel)
set_option maxRecDepth 20000 in
theorem gX1_turn_X1_turned : GoodIn wsX1_turn (wsV RX1 59 RX1 yX1_turned wsX1_turned) := goodIn_app (goodIn_of _ (by decide +kernel)) ggX1_turn_X1_turned
theorem dX1_turn_0 : decode cX1_turn 0 = .ok (.aload_n 0, 1) := by decide +kernel
theorem dX1_turn_1 : decode cX1_turn 1 = .ok (.iload_n 1, 1) := by decide +kernel
theorem dX1_turn_2 : decode cX1_turn 2 = .ok (.invokevirtual 49, 3) := by decide +kernel
theorem dX1_turn_5 : decode cX1_turn 5 = .ok (.ifCond .eq 21, 3) := by decide +kernel
theorem dX1_turn_8 : decode cX1_turn 8 = .ok (.iload_n 2, 1) := by decide +kernel
theorem dX1_turn_9 : decode cX1_turn 9 = .ok (.invokestatic 56, 3) := by decide +kernel
theorem dX1_turn_12 : decode cX1_turn 12 = .ok (.ifCond .eq 14, 3) := by decide +kernel
theorem dX1_turn_15 : decode cX1_turn 15 = .ok (.iload_n 3, 1) := by decide +kernel
theorem dX1_turn_16 : decode cX1_turn 16 = .ok (.iconst 0, 1) := by decide +kernel
theorem dX1_turn_17 : decode cX1_turn 17 = .ok (.sipush 1000, 3) := by decide +kernel
theorem dX1_turn_20 : decode cX1_turn 20 = .ok (.invokestatic 36, 3) := by decide +kernel
theorem dX1_turn_23 : decode cX1_turn 23 = .ok (.ifCond .ne 5, 3) := by decide +kernel
theorem dX1_turn_26 : decode cX1_turn 26 = .ok (.iconst (-1), 1) := by decide +kernel
theorem dX1_turn_27 : decode cX1_turn 27 = .ok (.ireturn, 1) := by decide +kernel
theorem dX1_turn_28 : decode cX1_turn 28 = .ok (.iload_n 1, 1) := by decide +kernel
theorem dX1_turn_29 : decode cX1_turn 29 = .ok (.istore 4, 2) := by decide +kernel
theorem dX1_turn_31 : decode cX1_turn 31 = .ok (.iconst 0, 1) := by decide +kernel
theorem dX1_turn_32 : decode cX1_turn 32 = .ok (.istore 5, 2) := by decide +kernel
theorem dX1_turn_34 : decode cX1_turn 34 = .ok (.iload 5, 2) := by decide +kernel
theorem dX1_turn_36 : decode cX1_turn 36 = .ok (.iload_n 3, 1) := by decide +kernel
theorem dX1_turn_37 : decode cX1_turn 37 = .ok (.if_icmp .ge 18, 3) := by decide +kernel
theorem dX1_turn_40 : decode cX1_turn 40 = .ok (.aload_n 0, 1) := by decide +kernel
theorem dX1_turn_41 : decode cX1_turn 41 = .ok (.iload 4, 2) := by decide +kernel
theorem dX1_turn_43 : decode cX1_turn 43 = .ok (.iload_n 2, 1) := by decide +kernel
theorem dX1_turn_44 : decode cX1_turn 44 = .ok (.invokevirtual 59, 3) := by decide +kernel
theorem dX1_turn_47 : decode cX1_turn 47 = .ok (.istore 4, 2) := by decide +kernel
theorem dX1_turn_49 : decode cX1_turn 49 = .ok (.iinc 5 1, 3) := by decide +kernel
theorem dX1_turn_52 : decode cX1_turn 52 = .ok (.goto (-18), 3) := by decide +kernel
theorem dX1_turn_55 : decode cX1_turn 55 = .ok (.iload 4, 2) := by decide +kernel
theorem dX1_turn_57 : decode cX1_turn 57 = .ok (.ireturn, 1) := by decide +kernel
set_option maxRecDepth 20000 in
theorem ggX1_orbitOf_X1_turned : GoodIn wsX1_orbitOf wsX1_turned := goodIn_r _ [5, 6, 7, 8, 9, 10, 11, 12, 4, 13, 14, 15, 16, 17, 18, 19, 20, 21, 22, 23, 24, 25, 26, 27, 28, 29, 30, 31, 32] (by decide +kernel) (by decide +kernel)
set_option maxRecDepth 20000 in
theorem gX1_orbitOf_X1_turned : GoodIn wsX1_orbitOf (wsV RX1 59 RX1 yX1_turned wsX1_turned) := goodIn_app (goodIn_of _ (by decide +kernel)) ggX1_orbitOf_X1_turned
theorem dX1_orbitOf_0 : decode cX1_orbitOf 0 = .ok (.iconst 1, 1) := by decide +kernel
theorem dX1_orbitOf_1 : decode cX1_orbitOf 1 = .ok (.istore_n 3, 1) := by decide +kernel
theorem dX1_orbitOf_2 : decode cX1_orbitOf 2 = .ok (.aload_n 0, 1) := by decide +kernel
theorem dX1_orbitOf_3 : decode cX1_orbitOf 3 = .ok (.iload_n 1, 1) := by decide +kernel
theorem dX1_orbitOf_4 : decode cX1_orbitOf 4 = .ok (.iload_n 2, 1) := by decide +kernel
theorem dX1_orbitOf_5 : decode cX1_orbitOf 5 = .ok (.invokevirtual 59, 3) := by decide +kernel
theorem dX1_orbitOf_8 : decode cX1_orbitOf 8 = .ok (.istore 4, 2) := by decide +kernel
theorem dX1_orbitOf_10 : decode cX1_orbitOf 10 = .ok (.iload 4, 2) := by decide +kernel
theorem dX1_orbitOf_12 : decode cX1_orbitOf 12 = .ok (.iload_n 1, 1) := by decide +kernel
theorem dX1_orbitOf_13 : decode cX1_orbitOf 13 = .ok (.if_icmp .eq 18, 3) := by decide +kernel
theorem dX1_orbitOf_16 : decode cX1_orbitOf 16 = .ok (.iinc 3 1, 3) := by decide +kernel
theorem dX1_orbitOf_19 : decode cX1_orbitOf 19 = .ok (.aload_n 0, 1) := by decide +kernel
theorem dX1_orbitOf_20 : decode cX1_orbitOf 20 = .ok (.iload 4, 2) := by decide +kernel
theorem dX1_orbitOf_22 : decode cX1_orbitOf 22 = .ok (.iload_n 2, 1) := by decide +kernel
theorem dX1_orbitOf_23 : decode cX1_orbitOf 23 = .ok (.invokevirtual 59, 3) := by decide +kernel
theorem dX1_orbitOf_26 : decode cX1_orbitOf 26 = .ok (.istore 4, 2) := by decide +kernel
theorem dX1_orbitOf_28 : decode cX1_orbitOf 28 = .ok (.goto (-18), 3) := by decide +kernel
theorem dX1_orbitOf_31 : decode cX1_orbitOf 31 = .ok (.iload_n 3, 1) := by decide +kernel
theorem dX1_orbitOf_32 : decode cX1_orbitOf 32 = .ok (.ireturn, 1) := by decide +kernel
set_option maxRecDepth 20000 in
theorem ggX1_orbit_X1_isHeap : GoodIn wsX1_orbit wsX1_isHeap := goodIn_r _ [5, 6, 7, 8, 9, 4, 10, 11, 12, 13, 31, 32, 33, 34, 35, 36, 37, 38, 39] (by decide +kernel) (by decide +kernel)
set_option maxRecDepth 20000 in
theorem gX1_orbit_X1_isHeap : GoodIn wsX1_orbit (wsV RX1 49 RX1 yX1_isHeap wsX1_isHeap) := goodIn_app (goodIn_of _ (by decide +kernel)) ggX1_orbit_X1_isHeap
set_option maxRecDepth 20000 in
theorem ggX1_orbit_X1_isKind : GoodIn wsX1_orbit wsX1_isKind := goodIn_r _ [16, 8, 9, 4, 10] (by decide +kernel) (by decide +kernel)
set_option maxRecDepth 20000 in
theorem gX1_orbit_X1_isKind : GoodIn wsX1_orbit (va_wsS RX1 56 yX1_isKind wsX1_isKind) := goodIn_app (goodIn_of _ (by decide +kernel)) ggX1_orbit_X1_isKind
set_option maxRecDepth 20000 in
theorem ggX1_orbit_X1_orbitOf : GoodIn wsX1_orbit wsX1_orbitOf := goodIn_r _ [20, 21, 22, 23, 4, 24, 25, 26, 6, 7, 27, 28, 29, 30, 1, 2, 3, 5, 8, 9, 10, 11, 12, 13, 31, 32, 33, 34, 35, 36, 37, 38, 39] (by decide +kernel) (by decide +kernel)
set_option maxRecDepth 20000 in
theorem gX1_orbit_X1_orbitOf : GoodIn wsX1_orbit (wsV RX1 62 RX1 yX1_orbitOf wsX1_orbitOf) := goodIn_app (goodIn_of _ (by decide +kernel)) ggX1_orbit_X1_orbitOf
theorem dX1_orbit_0 : decode cX1_orbit 0 = .ok (.aload_n 0, 1) := by decide +kernel
theorem dX1_orbit_1 : decode cX1_orbit 1 = .ok (.iload_n 1, 1) := by decide +kernel
theorem dX1_orbit_2 : decode cX1_orbit 2 = .ok (.invokevirtual 49, 3) := by decide +kernel
theorem dX1_orbit_5 : decode cX1_orbit 5 = .ok (.ifCond .eq 19, 3) := by decide +kernel
theorem dX1_orbit_8 : decode cX1_orbit 8 = .ok (.iload_n 2, 1) := by decide +kernel
theorem dX1_orbit_9 : decode cX1_orbit 9 = .ok (.invokestatic 56, 3) := by decide +kernel
theorem dX1_orbit_12 : decode cX1_orbit 12 = .ok (.ifCond .eq 12, 3) := by decide +kernel
theorem dX1_orbit_15 : decode cX1_orbit 15 = .ok (.aload_n 0, 1) := by decide +kernel
theorem dX1_orbit_16 : decode cX1_orbit 16 = .ok (.iload_n 1, 1) := by decide +kernel
theorem dX1_orbit_17 : decode cX1_orbit 17 = .ok (.iload_n 2, 1) := by decide +kernel
theorem dX1_orbit_18 : decode cX1_orbit 18 = .ok (.invokevirtual 62, 3) := by decide +kernel
theorem dX1_orbit_21 : decode cX1_orbit 21 = .ok (.goto 4, 3) := by decide +kernel
theorem dX1_orbit_24 : decode cX1_orbit 24 = .ok (.iconst (-1), 1) := by decide +kernel
theorem dX1_orbit_25 : decode cX1_orbit 25 = .ok (.ireturn, 1) := by decide +kernel
theorem dX1_common_0 : decode cX1_common 0 = .ok (.lload_n 0, 1) := by decide +kernel
theorem dX1_common_1 : decode cX1_common 1 = .ok (.lconst 0, 1) := by decide +kernel
theorem dX1_common_2 : decode cX1_common 2 = .ok (.lcmp, 1) := by decide +kernel
theorem dX1_common_3 : decode cX1_common 3 = .ok (.ifCond .ge 8, 3) := by decide +kernel
theorem dX1_common_6 : decode cX1_common 6 = .ok (.lload_n 0, 1) := by decide +kernel
theorem dX1_common_7 : decode cX1_common 7 = .ok (.lneg, 1) := by decide +kernel
theorem dX1_common_8 : decode cX1_common 8 = .ok (.goto 4, 3) := by decide +kernel
theorem dX1_common_11 : decode cX1_common 11 = .ok (.lload_n 0, 1) := by decide +kernel
theorem dX1_common_12 : decode cX1_common 12 = .ok (.lstore 4, 2) := by decide +kernel
theorem dX1_common_14 : decode cX1_common 14 = .ok (.lload_n 2, 1) := by decide +kernel
theorem dX1_common_15 : decode cX1_common 15 = .ok (.lstore 6, 2) := by decide +kernel
theorem dX1_common_17 : decode cX1_common 17 = .ok (.lload 6, 2) := by decide +kernel
theorem dX1_common_19 : decode cX1_common 19 = .ok (.lconst 0, 1) := by decide +kernel
theorem dX1_common_20 : decode cX1_common 20 = .ok (.lcmp, 1) := by decide +kernel
theorem dX1_common_21 : decode cX1_common 21 = .ok (.ifCond .eq 21, 3) := by decide +kernel
theorem dX1_common_24 : decode cX1_common 24 = .ok (.lload 4, 2) := by decide +kernel
theorem dX1_common_26 : decode cX1_common 26 = .ok (.lload 6, 2) := by decide +kernel
theorem dX1_common_28 : decode cX1_common 28 = .ok (.lrem, 1) := by decide +kernel
theorem dX1_common_29 : decode cX1_common 29 = .ok (.lstore 8, 2) := by decide +kernel
theorem dX1_common_31 : decode cX1_common 31 = .ok (.lload 6, 2) := by decide +kernel
theorem dX1_common_33 : decode cX1_common 33 = .ok (.lstore 4, 2) := by decide +kernel
theorem dX1_common_35 : decode cX1_common 35 = .ok (.lload 8, 2) := by decide +kernel
theorem dX1_common_37 : decode cX1_common 37 = .ok (.lstore 6, 2) := by decide +kernel
theorem dX1_common_39 : decode cX1_common 39 = .ok (.goto (-22), 3) := by decide +kernel
theorem dX1_common_42 : decode cX1_common 42 = .ok (.lload 4, 2) := by decide +kernel
theorem dX1_common_44 : decode cX1_common 44 = .ok (.lreturn, 1) := by decide +kernel
set_option maxRecDepth 20000 in
theorem ggX1_orbits_X1_isKind : GoodIn wsX1_orbits wsX1_isKind := goodIn_r _ [7, 8, 9, 6, 10] (by decide +kernel) (by decide +kernel)
set_option maxRecDepth 20000 in
theorem gX1_orbits_X1_isKind : GoodIn wsX1_orbits (va_wsS RX1 56 yX1_isKind wsX1_isKind) := goodIn_app (goodIn_of _ (by decide +kernel)) ggX1_orbits_X1_isKind
set_option maxRecDepth 20000 in
theorem ggX1_orbits_X1_in : GoodIn wsX1_orbits wsX1_in := goodIn_r _ [10] (by decide +kernel) (by decide +kernel)
set_option maxRecDepth 20000 in
theorem gX1_orbits_X1_in : GoodIn wsX1_orbits (va_wsS RX1 36 yX1_in wsX1_in) := goodIn_app (goodIn_of _ (by decide +kernel)) ggX1_orbits_X1_in
set_option maxRecDepth 20000 in
theorem ggX1_orbits_X1_isHeap : GoodIn wsX1_orbits wsX1_isHeap := goodIn_r _ [14, 2, 15, 8, 9, 6, 10, 16, 17, 18, 32, 33, 34, 35, 36, 37, 38, 39, 40] (by decide +kernel) (by decide +kernel)
set_option maxRecDepth 20000 in
theorem gX1_orbits_X1_isHeap : GoodIn wsX1_orbits (wsV RX1 49 RX1 yX1_isHeap wsX1_isHeap) := goodIn_app (goodIn_of _ (by decide +kernel)) ggX1_orbits_X1_isHeap
set_option maxRecDepth 20000 in
theorem ggX1_orbits_X1_turned : GoodIn wsX1_orbits wsX1_turned := goodIn_r _ [22, 23, 24, 2, 15, 25, 26, 27, 6, 28, 11, 12, 13, 14, 8, 9, 10, 16, 17, 18, 32, 33, 34, 35, 36, 37, 38, 39, 40] (by decide +kernel) (by decide +kernel)
set_option maxRecDepth 20000 in
theorem gX1_orbits_X1_turned : GoodIn wsX1_orbits (wsV RX1 59 RX1 yX1_turned wsX1_turned) := goodIn_app (goodIn_of _ (by decide +kernel)) ggX1_orbits_X1_turned
set_option maxRecDepth 20000 in
theorem ggX1_orbits_X1_common : GoodIn wsX1_orbits wsX1_common := goodIn_r _ [31] (by decide +kernel) (by decide +kernel)
set_option maxRecDepth 20000 in
theorem gX1_orbits_X1_common : GoodIn wsX1_orbits (va_wsS RX1 67 yX1_common wsX1_common) := goodIn_app (goodIn_of _ (by decide +kernel)) ggX1_orbits_X1_common
theorem dX1_orbits_0 : decode cX1_orbits 0 = .ok (.iload_n 1, 1) := by decide +kernel
theorem dX1_orbits_1 : decode cX1_orbits 1 = .ok (.invokestatic 56, 3) := by decide +kernel
theorem dX1_orbits_4 : decode cX1_orbits 4 = .ok (.ifCond .eq 12, 3) := by decide +kernel
theorem dX1_orbits_7 : decode cX1_orbits 7 = .ok (.iload_n 2, 1) := by decide +kernel
theorem dX1_orbits_8 : decode cX1_orbits 8 = .ok (.iconst 0, 1) := by decide +kernel
theorem dX1_orbits_9 : decode cX1_orbits 9 = .ok (.iconst 2, 1) := by decide +kernel
theorem dX1_orbits_10 : decode cX1_orbits 10 = .ok (.invokestatic 36, 3) := by decide +kernel
theorem dX1_orbits_13 : decode cX1_orbits 13 = .ok (.ifCond .ne 5, 3) := by decide +kernel
theorem dX1_orbits_16 : decode cX1_orbits 16 = .ok (.iconst (-1), 1) := by decide +kernel
theorem dX1_orbits_17 : decode cX1_orbits 17 = .ok (.ireturn, 1) := by decide +kernel
theorem dX1_orbits_18 : decode cX1_orbits 18 = .ok (.iconst 0, 1) := by decide +kernel
theorem dX1_orbits_19 : decode cX1_orbits 19 = .ok (.istore_n 3, 1) := by decide +kernel
theorem dX1_orbits_20 : decode cX1_orbits 20 = .ok (.iload_n 3, 1) := by decide +kernel
theorem dX1_orbits_21 : decode cX1_orbits 21 = .ok (.sipush 256, 3) := by decide +kernel
theorem dX1_orbits_24 : decode cX1_orbits 24 = .ok (.if_icmp .ge 16, 3) := by decide +kernel
theorem dX1_orbits_27 : decode cX1_orbits 27 = .ok (.aload_n 0, 1) := by decide +kernel
theorem dX1_orbits_28 : decode cX1_orbits 28 = .ok (.getfield 24, 3) := by decide +kernel
theorem dX1_orbits_31 : decode cX1_orbits 31 = .ok (.iload_n 3, 1) := by decide +kernel
theorem dX1_orbits_32 : decode cX1_orbits 32 = .ok (.iconst 0, 1) := by decide +kernel
theorem dX1_orbits_33 : decode cX1_orbits 33 = .ok (.bastore, 1) := by decide +kernel
theorem dX1_orbits_34 : decode cX1_orbits 34 = .ok (.iinc 3 1, 3) := by decide +kernel
theorem dX1_orbits_37 : decode cX1_orbits 37 = .ok (.goto (-17), 3) := by decide +kernel
theorem dX1_orbits_40 : decode cX1_orbits 40 = .ok (.iconst 0, 1) := by decide +kernel
theorem dX1_orbits_41 : decode cX1_orbits 41 = .ok (.istore_n 3, 1) := by decide +kernel
theorem dX1_orbits_42 : decode cX1_orbits 42 = .ok (.iconst 0, 1) := by decide +kernel
theorem dX1_orbits_43 : decode cX1_orbits 43 = .ok (.istore 4, 2) := by decide +kernel
theorem dX1_orbits_45 : decode cX1_orbits 45 = .ok (.lconst 1, 1) := by decide +kernel
theorem dX1_orbits_46 : decode cX1_orbits 46 = .ok (.lstore 5, 2) := by decide +kernel
theorem dX1_orbits_48 : decode cX1_orbits 48 = .ok (.iconst 0, 1) := by decide +kernel
theorem dX1_orbits_49 : decode cX1_orbits 49 = .ok (.istore 7, 2) := by decide +kernel
theorem dX1_orbits_51 : decode cX1_orbits 51 = .ok (.iload 7, 2) := by decide +kernel
theorem dX1_orbits_53 : decode cX1_orbits 53 = .ok (.iconst 1, 1) := by decide +kernel
theorem dX1_orbits_54 : decode cX1_orbits 54 = .ok (.aload_n 0, 1) := by decide +kernel
theorem dX1_orbits_55 : decode cX1_orbits 55 = .ok (.getfield 7, 3) := by decide +kernel
theorem dX1_orbits_58 : decode cX1_orbits 58 = .ok (.ishl, 1) := by decide +kernel
theorem dX1_orbits_59 : decode cX1_orbits 59 = .ok (.if_icmp .ge 118, 3) := by decide +kernel
theorem dX1_orbits_62 : decode cX1_orbits 62 = .ok (.aload_n 0, 1) := by decide +kernel
theorem dX1_orbits_63 : decode cX1_orbits 63 = .ok (.iload 7, 2) := by decide +kernel
theorem dX1_orbits_65 : decode cX1_orbits 65 = .ok (.invokevirtual 49, 3) := by decide +kernel
theorem dX1_orbits_68 : decode cX1_orbits 68 = .ok (.ifCond .eq 103, 3) := by decide +kernel
theorem dX1_orbits_71 : decode cX1_orbits 71 = .ok (.aload_n 0, 1) := by decide +kernel
theorem dX1_orbits_72 : decode cX1_orbits 72 = .ok (.getfield 24, 3) := by decide +kernel
theorem dX1_orbits_75 : decode cX1_orbits 75 = .ok (.iload 7, 2) := by decide +kernel
theorem dX1_orbits_77 : decode cX1_orbits 77 = .ok (.baload, 1) := by decide +kernel
theorem dX1_orbits_78 : decode cX1_orbits 78 = .ok (.ifCond .ne 93, 3) := by decide +kernel
theorem dX1_orbits_81 : decode cX1_orbits 81 = .ok (.iconst 0, 1) := by decide +kernel
theorem dX1_orbits_82 : decode cX1_orbits 82 = .ok (.istore 8, 2) := by decide +kernel
theorem dX1_orbits_84 : decode cX1_orbits 84 = .ok (.iload 7, 2) := by decide +kernel
theorem dX1_orbits_86 : decode cX1_orbits 86 = .ok (.istore 9, 2) := by decide +kernel
theorem dX1_orbits_88 : decode cX1_orbits 88 = .ok (.aload_n 0, 1) := by decide +kernel
theorem dX1_orbits_89 : decode cX1_orbits 89 = .ok (.getfield 24, 3) := by decide +kernel
theorem dX1_orbits_92 : decode cX1_orbits 92 = .ok (.iload 9, 2) := by decide +kernel
theorem dX1_orbits_94 : decode cX1_orbits 94 = .ok (.baload, 1) := by decide +kernel
theorem dX1_orbits_95 : decode cX1_orbits 95 = .ok (.ifCond .ne 26, 3) := by decide +kernel
theorem dX1_orbits_98 : decode cX1_orbits 98 = .ok (.aload_n 0, 1) := by decide +kernel
theorem dX1_orbits_99 : decode cX1_orbits 99 = .ok (.getfield 24, 3) := by decide +kernel
theorem dX1_orbits_102 : decode cX1_orbits 102 = .ok (.iload 9, 2) := by decide +kernel
theorem dX1_orbits_104 : decode cX1_orbits 104 = .ok (.iconst 1, 1) := by decide +kernel
theorem dX1_orbits_105 : decode cX1_orbits 105 = .ok (.bastore, 1) := by decide +kernel
theorem dX1_orbits_106 : decode cX1_orbits 106 = .ok (.iinc 8 1, 3) := by decide +kernel
theorem dX1_orbits_109 : decode cX1_orbits 109 = .ok (.aload_n 0, 1) := by decide +kernel
theorem dX1_orbits_110 : decode cX1_orbits 110 = .ok (.iload 9, 2) := by decide +kernel
theorem dX1_orbits_112 : decode cX1_orbits 112 = .ok (.iload_n 1, 1) := by decide +kernel
theorem dX1_orbits_113 : decode cX1_orbits 113 = .ok (.invokevirtual 59, 3) := by decide +kernel
theorem dX1_orbits_116 : decode cX1_orbits 116 = .ok (.istore 9, 2) := by decide +kernel
theorem dX1_orbits_118 : decode cX1_orbits 118 = .ok (.goto (-30), 3) := by decide +kernel
theorem dX1_orbits_121 : decode cX1_orbits 121 = .ok (.iinc 3 1, 3) := by decide +kernel
theorem dX1_orbits_124 : decode cX1_orbits 124 = .ok (.iload 8, 2) := by decide +kernel
theorem dX1_orbits_126 : decode cX1_orbits 126 = .ok (.iload 4, 2) := by decide +kernel
theorem dX1_orbits_128 : decode cX1_orbits 128 = .ok (.if_icmp .le 8, 3) := by decide +kernel
theorem dX1_orbits_131 : decode cX1_orbits 131 = .ok (.iload 8, 2) := by decide +kernel
theorem dX1_orbits_133 : decode cX1_orbits 133 = .ok (.goto 5, 3) := by decide +kernel
theorem dX1_orbits_136 : decode cX1_orbits 136 = .ok (.iload 4, 2) := by decide +kernel
theorem dX1_orbits_138 : decode cX1_orbits 138 = .ok (.istore 4, 2) := by decide +kernel
theorem dX1_orbits_140 : decode cX1_orbits 140 = .ok (.lload 5, 2) := by decide +kernel
theorem dX1_orbits_142 : decode cX1_orbits 142 = .ok (.ldc2_w 65, 3) := by decide +kernel
theorem dX1_orbits_145 : decode cX1_orbits 145 = .ok (.lcmp, 1) := by decide +kernel
theorem dX1_orbits_146 : decode cX1_orbits 146 = .ok (.ifCond .le 8, 3) := by decide +kernel
theorem dX1_orbits_149 : decode cX1_orbits 149 = .ok (.lload 5, 2) := by decide +kernel
theorem dX1_orbits_151 : decode cX1_orbits 151 = .ok (.goto 18, 3) := by decide +kernel
theorem dX1_orbits_154 : decode cX1_orbits 154 = .ok (.lload 5, 2) := by decide +kernel
theorem dX1_orbits_156 : decode cX1_orbits 156 = .ok (.lload 5, 2) := by decide +kernel
theorem dX1_orbits_158 : decode cX1_orbits 158 = .ok (.iload 8, 2) := by decide +kernel
theorem dX1_orbits_160 : decode cX1_orbits 160 = .ok (.i2l, 1) := by decide +kernel
theorem dX1_orbits_161 : decode cX1_orbits 161 = .ok (.invokestatic 67, 3) := by decide +kernel
theorem dX1_orbits_164 : decode cX1_orbits 164 = .ok (.ldiv, 1) := by decide +kernel
theorem dX1_orbits_165 : decode cX1_orbits 165 = .ok (.iload 8, 2) := by decide +kernel
theorem dX1_orbits_167 : decode cX1_orbits 167 = .ok (.i2l, 1) := by decide +kernel
theorem dX1_orbits_168 : decode cX1_orbits 168 = .ok (.lmul, 1) := by decide +kernel
theorem dX1_orbits_169 : decode cX1_orbits 169 = .ok (.lstore 5, 2) := by decide +kernel
theorem dX1_orbits_171 : decode cX1_orbits 171 = .ok (.iinc 7 1, 3) := by decide +kernel
theorem dX1_orbits_174 : decode cX1_orbits 174 = .ok (.goto (-123), 3) := by decide +kernel
theorem dX1_orbits_177 : decode cX1_orbits 177 = .ok (.iload_n 2, 1) := by decide +kernel
theorem dX1_orbits_178 : decode cX1_orbits 178 = .ok (.ifCond .ne 7, 3) := by decide +kernel
theorem dX1_orbits_181 : decode cX1_orbits 181 = .ok (.iload_n 3, 1) := by decide +kernel
theorem dX1_orbits_182 : decode cX1_orbits 182 = .ok (.goto 30, 3) := by decide +kernel
theorem dX1_orbits_185 : decode cX1_orbits 185 = .ok (.iload_n 2, 1) := by decide +kernel
theorem dX1_orbits_186 : decode cX1_orbits 186 = .ok (.iconst 2, 1) := by decide +kernel
theorem dX1_orbits_187 : decode cX1_orbits 187 = .ok (.if_icmp .ne 8, 3) := by decide +kernel
theorem dX1_orbits_190 : decode cX1_orbits 190 = .ok (.iload 4, 2) := by decide +kernel
theorem dX1_orbits_192 : decode cX1_orbits 192 = .ok (.goto 20, 3) := by decide +kernel
theorem dX1_orbits_195 : decode cX1_orbits 195 = .ok (.lload 5, 2) := by decide +kernel
theorem dX1_orbits_197 : decode cX1_orbits 197 = .ok (.ldc2_w 65, 3) := by decide +kernel
theorem dX1_orbits_200 : decode cX1_orbits 200 = .ok (.lcmp, 1) := by decide +kernel
theorem dX1_orbits_201 : decode cX1_orbits 201 = .ok (.ifCond .le 8, 3) := by decide +kernel
theorem dX1_orbits_204 : decode cX1_orbits 204 = .ok (.bipush (-9), 2) := by decide +kernel
theorem dX1_orbits_206 : decode cX1_orbits 206 = .ok (.goto 6, 3) := by decide +kernel
theorem dX1_orbits_209 : decode cX1_orbits 209 = .ok (.lload 5, 2) := by decide +kernel
theorem dX1_orbits_211 : decode cX1_orbits 211 = .ok (.l2i, 1) := by decide +kernel
theorem dX1_orbits_212 : decode cX1_orbits 212 = .ok (.ireturn, 1) := by decide +kernel
set_option maxRecDepth 20000 in
theorem ggX1_measureOf_X1_has : GoodIn wsX1_measureOf wsX1_has := goodIn_r _ [7] (by decide +kernel) (by decide +kernel)
set_option maxRecDepth 20000 in
theorem gX1_measureOf_X1_has : GoodIn wsX1_measureOf (va_wsS RX1 45 yX1_has wsX1_has) := goodIn_app (goodIn_of _ (by decide +kernel)) ggX1_measureOf_X1_has
theorem dX1_measureOf_0 : decode cX1_measureOf 0 = .ok (.iconst 0, 1) := by decide +kernel
theorem dX1_measureOf_1 : decode cX1_measureOf 1 = .ok (.istore_n 3, 1) := by decide +kernel
theorem dX1_measureOf_2 : decode cX1_measureOf 2 = .ok (.iconst 0, 1) := by decide +kernel
theorem dX1_measureOf_3 : decode cX1_measureOf 3 = .ok (.istore 4, 2) := by decide +kernel
theorem dX1_measureOf_5 : decode cX1_measureOf 5 = .ok (.iload 4, 2) := by decide +kernel
theorem dX1_measureOf_7 : decode cX1_measureOf 7 = .ok (.aload_n 0, 1) := by decide +kernel
theorem dX1_measureOf_8 : decode cX1_measureOf 8 = .ok (.getfield 7, 3) := by decide +kernel
theorem dX1_measureOf_11 : decode cX1_measureOf 11 = .ok (.if_icmp .ge 112, 3) := by decide +kernel
theorem dX1_measureOf_14 : decode cX1_measureOf 14 = .ok (.iload_n 2, 1) := by decide +kernel
theorem dX1_measureOf_15 : decode cX1_measureOf 15 = .ok (.iload 4, 2) := by decide +kernel
theorem dX1_measureOf_17 : decode cX1_measureOf 17 = .ok (.invokestatic 45, 3) := by decide +kernel
theorem dX1_measureOf_20 : decode cX1_measureOf 20 = .ok (.ifCond .eq 97, 3) := by decide +kernel
theorem dX1_measureOf_23 : decode cX1_measureOf 23 = .ok (.iconst 1, 1) := by decide +kernel
theorem dX1_measureOf_24 : decode cX1_measureOf 24 = .ok (.istore 5, 2) := by decide +kernel
theorem dX1_measureOf_26 : decode cX1_measureOf 26 = .ok (.iconst 0, 1) := by decide +kernel
theorem dX1_measureOf_27 : decode cX1_measureOf 27 = .ok (.istore 6, 2) := by decide +kernel
theorem dX1_measureOf_29 : decode cX1_measureOf 29 = .ok (.iload 6, 2) := by decide +kernel
theorem dX1_measureOf_31 : decode cX1_measureOf 31 = .ok (.aload_n 0, 1) := by decide +kernel
theorem dX1_measureOf_32 : decode cX1_measureOf 32 = .ok (.getfield 7, 3) := by decide +kernel
theorem dX1_measureOf_35 : decode cX1_measureOf 35 = .ok (.if_icmp .ge 46, 3) := by decide +kernel
theorem dX1_measureOf_38 : decode cX1_measureOf 38 = .ok (.iload 5, 2) := by decide +kernel
theorem dX1_measureOf_40 : decode cX1_measureOf 40 = .ok (.ifCond .eq 32, 3) := by decide +kernel
theorem dX1_measureOf_43 : decode cX1_measureOf 43 = .ok (.aload_n 0, 1) := by decide +kernel
theorem dX1_measureOf_44 : decode cX1_measureOf 44 = .ok (.getfield 13, 3) := by decide +kernel
theorem dX1_measureOf_47 : decode cX1_measureOf 47 = .ok (.bipush 8, 2) := by decide +kernel
theorem dX1_measureOf_49 : decode cX1_measureOf 49 = .ok (.iload 4, 2) := by decide +kernel
theorem dX1_measureOf_51 : decode cX1_measureOf 51 = .ok (.imul, 1) := by decide +kernel
theorem dX1_measureOf_52 : decode cX1_measureOf 52 = .ok (.iload 6, 2) := by decide +kernel
theorem dX1_measureOf_54 : decode cX1_measureOf 54 = .ok (.iadd, 1) := by decide +kernel
theorem dX1_measureOf_55 : decode cX1_measureOf 55 = .ok (.baload, 1) := by decide +kernel
theorem dX1_measureOf_56 : decode cX1_measureOf 56 = .ok (.ifCond .eq 12, 3) := by decide +kernel
theorem dX1_measureOf_59 : decode cX1_measureOf 59 = .ok (.iload_n 2, 1) := by decide +kernel
theorem dX1_measureOf_60 : decode cX1_measureOf 60 = .ok (.iload 6, 2) := by decide +kernel
theorem dX1_measureOf_62 : decode cX1_measureOf 62 = .ok (.invokestatic 45, 3) := by decide +kernel
theorem dX1_measureOf_65 : decode cX1_measureOf 65 = .ok (.ifCond .ne 7, 3) := by decide +kernel
theorem dX1_measureOf_68 : decode cX1_measureOf 68 = .ok (.iconst 1, 1) := by decide +kernel
theorem dX1_measureOf_69 : decode cX1_measureOf 69 = .ok (.goto 4, 3) := by decide +kernel
theorem dX1_measureOf_72 : decode cX1_measureOf 72 = .ok (.iconst 0, 1) := by decide +kernel
theorem dX1_measureOf_73 : decode cX1_measureOf 73 = .ok (.istore 5, 2) := by decide +kernel
theorem dX1_measureOf_75 : decode cX1_measureOf 75 = .ok (.iinc 6 1, 3) := by decide +kernel
theorem dX1_measureOf_78 : decode cX1_measureOf 78 = .ok (.goto (-49), 3) := by decide +kernel
theorem dX1_measureOf_81 : decode cX1_measureOf 81 = .ok (.iload_n 3, 1) := by decide +kernel
theorem dX1_measureOf_82 : decode cX1_measureOf 82 = .ok (.iconst 1, 1) := by decide +kernel
theorem dX1_measureOf_83 : decode cX1_measureOf 83 = .ok (.iload_n 1, 1) := by decide +kernel
theorem dX1_measureOf_84 : decode cX1_measureOf 84 = .ok (.ifCond .le 13, 3) := by decide +kernel
theorem dX1_measureOf_87 : decode cX1_measureOf 87 = .ok (.aload_n 0, 1) := by decide +kernel
theorem dX1_measureOf_88 : decode cX1_measureOf 88 = .ok (.getfield 17, 3) := by decide +kernel
theorem dX1_measureOf_91 : decode cX1_measureOf 91 = .ok (.iload 4, 2) := by decide +kernel
theorem dX1_measureOf_93 : decode cX1_measureOf 93 = .ok (.iaload, 1) := by decide +kernel
theorem dX1_measureOf_94 : decode cX1_measureOf 94 = .ok (.goto 4, 3) := by decide +kernel
theorem dX1_measureOf_97 : decode cX1_measureOf 97 = .ok (.iconst 0, 1) := by decide +kernel
theorem dX1_measureOf_98 : decode cX1_measureOf 98 = .ok (.iadd, 1) := by decide +kernel
theorem dX1_measureOf_99 : decode cX1_measureOf 99 = .ok (.iload_n 1, 1) := by decide +kernel
theorem dX1_measureOf_100 : decode cX1_measureOf 100 = .ok (.iconst 2, 1) := by decide +kernel
theorem dX1_measureOf_101 : decode cX1_measureOf 101 = .ok (.if_icmp .ne 12, 3) := by decide +kernel
theorem dX1_measureOf_104 : decode cX1_measureOf 104 = .ok (.iload 5, 2) := by decide +kernel
theorem dX1_measureOf_106 : decode cX1_measureOf 106 = .ok (.ifCond .eq 7, 3) := by decide +kernel
theorem dX1_measureOf_109 : decode cX1_measureOf 109 = .ok (.iconst 1, 1) := by decide +kernel
theorem dX1_measureOf_110 : decode cX1_measureOf 110 = .ok (.goto 4, 3) := by decide +kernel
theorem dX1_measureOf_113 : decode cX1_measureOf 113 = .ok (.iconst 0, 1) := by decide +kernel
theorem dX1_measureOf_114 : decode cX1_measureOf 114 = .ok (.iadd, 1) := by decide +kernel
theorem dX1_measureOf_115 : decode cX1_measureOf 115 = .ok (.iadd, 1) := by decide +kernel
theorem dX1_measureOf_116 : decode cX1_measureOf 116 = .ok (.istore_n 3, 1) := by decide +kernel
theorem dX1_measureOf_117 : decode cX1_measureOf 117 = .ok (.iinc 4 1, 3) := by decide +kernel
theorem dX1_measureOf_120 : decode cX1_measureOf 120 = .ok (.goto (-115), 3) := by decide +kernel
theorem dX1_measureOf_123 : decode cX1_measureOf 123 = .ok (.iload_n 3, 1) := by decide +kernel
theorem dX1_measureOf_124 : decode cX1_measureOf 124 = .ok (.ireturn, 1) := by decide +kernel
set_option maxRecDepth 20000 in
theorem ggX1_measure_X1_in : GoodIn wsX1_measure wsX1_in := goodIn_r _ [8] (by decide +kernel) (by decide +kernel)
set_option maxRecDepth 20000 in
theorem gX1_measure_X1_in : GoodIn wsX1_measure (va_wsS RX1 36 yX1_in wsX1_in) := goodIn_app (goodIn_of _ (by decide +kernel)) ggX1_measure_X1_in
set_option maxRecDepth 20000 in
theorem ggX1_measure_X1_isHeap : GoodIn wsX1_measure wsX1_isHeap := goodIn_r _ [12, 13, 14, 5, 6, 7, 8, 15, 16, 17, 23, 24, 25, 26, 27, 28, 29, 30, 31] (by decide +kernel) (by decide +kernel)
set_option maxRecDepth 20000 in
theorem gX1_measure_X1_isHeap : GoodIn wsX1_measure (wsV RX1 49 RX1 yX1_isHeap wsX1_isHeap) := goodIn_app (goodIn_of _ (by decide +kernel)) ggX1_measure_X1_isHeap
set_option maxRecDepth 20000 in
theorem ggX1_measure_X1_measureOf : GoodIn wsX1_measure wsX1_measureOf := goodIn_r _ [21, 13, 14, 22, 15, 16, 7, 17, 23, 24, 25, 26, 27, 28, 29, 30, 31] (by decide +kernel) (by decide +kernel)
set_option maxRecDepth 20000 in
theorem gX1_measure_X1_measureOf : GoodIn wsX1_measure (wsV RX1 79 RX1 yX1_measureOf wsX1_measureOf) := goodIn_app (goodIn_of _ (by decide +kernel)) ggX1_measure_X1_measureOf
theorem dX1_measure_0 : decode cX1_measure 0 = .ok (.iload_n 1, 1) := by decide +kernel
theorem dX1_measure_1 : decode cX1_measure 1 = .ok (.iconst 0, 1) := by decide +kernel
theorem dX1_measure_2 : decode cX1_measure 2 = .ok (.iconst 2, 1) := by decide +kernel
theorem dX1_measure_3 : decode cX1_measure 3 = .ok (.invokestatic 36, 3) := by decide +kernel
theorem dX1_measure_6 : decode cX1_measure 6 = .ok (.ifCond .eq 11, 3) := by decide +kernel
theorem dX1_measure_9 : decode cX1_measure 9 = .ok (.aload_n 0, 1) := by decide +kernel
theorem dX1_measure_10 : decode cX1_measure 10 = .ok (.iload_n 2, 1) := by decide +kernel
theorem dX1_measure_11 : decode cX1_measure 11 = .ok (.invokevirtual 49, 3) := by decide +kernel
theorem dX1_measure_14 : decode cX1_measure 14 = .ok (.ifCond .ne 6, 3) := by decide +kernel
theorem dX1_measure_17 : decode cX1_measure 17 = .ok (.ldc 44, 2) := by decide +kernel
theorem dX1_measure_19 : decode cX1_measure 19 = .ok (.ireturn, 1) := by decide +kernel
theorem dX1_measure_20 : decode cX1_measure 20 = .ok (.aload_n 0, 1) := by decide +kernel
theorem dX1_measure_21 : decode cX1_measure 21 = .ok (.dup, 1) := by decide +kernel
theorem dX1_measure_22 : decode cX1_measure 22 = .ok (.getfield 71, 3) := by decide +kernel
theorem dX1_measure_25 : decode cX1_measure 25 = .ok (.iload_n 1, 1) := by decide +kernel
theorem dX1_measure_26 : decode cX1_measure 26 = .ok (.ifCond .ne 7, 3) := by decide +kernel
theorem dX1_measure_29 : decode cX1_measure 29 = .ok (.lconst 1, 1) := by decide +kernel
theorem dX1_measure_30 : decode cX1_measure 30 = .ok (.goto 17, 3) := by decide +kernel
theorem dX1_measure_33 : decode cX1_measure 33 = .ok (.iload_n 1, 1) := by decide +kernel
theorem dX1_measure_34 : decode cX1_measure 34 = .ok (.iconst 1, 1) := by decide +kernel
theorem dX1_measure_35 : decode cX1_measure 35 = .ok (.if_icmp .ne 9, 3) := by decide +kernel
theorem dX1_measure_38 : decode cX1_measure 38 = .ok (.ldc2_w 75, 3) := by decide +kernel
theorem dX1_measure_41 : decode cX1_measure 41 = .ok (.goto 6, 3) := by decide +kernel
theorem dX1_measure_44 : decode cX1_measure 44 = .ok (.ldc2_w 77, 3) := by decide +kernel
theorem dX1_measure_47 : decode cX1_measure 47 = .ok (.ladd, 1) := by decide +kernel
theorem dX1_measure_48 : decode cX1_measure 48 = .ok (.putfield 71, 3) := by decide +kernel
theorem dX1_measure_51 : decode cX1_measure 51 = .ok (.aload_n 0, 1) := by decide +kernel
theorem dX1_measure_52 : decode cX1_measure 52 = .ok (.iload_n 1, 1) := by decide +kernel
theorem dX1_measure_53 : decode cX1_measure 53 = .ok (.iload_n 2, 1) := by decide +kernel
theorem dX1_measure_54 : decode cX1_measure 54 = .ok (.invokevirtual 79, 3) := by decide +kernel
theorem dX1_measure_57 : decode cX1_measure 57 = .ok (.ireturn, 1) := by decide +kernel
set_option maxRecDepth 20000 in
theorem ggX1_sumOf_X1_measureOf : GoodIn wsX1_sumOf wsX1_measureOf := goodIn_r _ [5, 6, 7, 8, 9, 10, 4, 11, 29, 30, 31, 32, 33, 34, 35, 36, 37] (by decide +kernel) (by decide +kernel)
set_option maxRecDepth 20000 in
theorem gX1_sumOf_X1_measureOf : GoodIn wsX1_sumOf (wsV RX1 79 RX1 yX1_measureOf wsX1_measureOf) := goodIn_app (goodIn_of _ (by decide +kernel)) ggX1_sumOf_X1_measureOf
set_option maxRecDepth 20000 in
theorem ggX1_sumOf_X1_turned : GoodIn wsX1_sumOf wsX1_turned := goodIn_r _ [15, 16, 17, 6, 7, 18, 19, 20, 4, 21, 22, 23, 24, 25, 26, 27, 28, 9, 10, 11, 29, 30, 31, 32, 33, 34, 35, 36, 37] (by decide +kernel) (by decide +kernel)
set_option maxRecDepth 20000 in
theorem gX1_sumOf_X1_turned : GoodIn wsX1_sumOf (wsV RX1 59 RX1 yX1_turned wsX1_turned) := goodIn_app (goodIn_of _ (by decide +kernel)) ggX1_sumOf_X1_turned
theorem dX1_sumOf_0 : decode cX1_sumOf 0 = .ok (.aload_n 0, 1) := by decide +kernel
theorem dX1_sumOf_1 : decode cX1_sumOf 1 = .ok (.iload_n 3, 1) := by decide +kernel
theorem dX1_sumOf_2 : decode cX1_sumOf 2 = .ok (.iload_n 1, 1) := by decide +kernel
theorem dX1_sumOf_3 : decode cX1_sumOf 3 = .ok (.invokevirtual 79, 3) := by decide +kernel
theorem dX1_sumOf_6 : decode cX1_sumOf 6 = .ok (.istore 4, 2) := by decide +kernel
theorem dX1_sumOf_8 : decode cX1_sumOf 8 = .ok (.aload_n 0, 1) := by decide +kernel
theorem dX1_sumOf_9 : decode cX1_sumOf 9 = .ok (.iload_n 1, 1) := by decide +kernel
theorem dX1_sumOf_10 : decode cX1_sumOf 10 = .ok (.iload_n 2, 1) := by decide +kernel
theorem dX1_sumOf_11 : decode cX1_sumOf 11 = .ok (.invokevirtual 59, 3) := by decide +kernel
theorem dX1_sumOf_14 : decode cX1_sumOf 14 = .ok (.istore 5, 2) := by decide +kernel
theorem dX1_sumOf_16 : decode cX1_sumOf 16 = .ok (.iload 5, 2) := by decide +kernel
theorem dX1_sumOf_18 : decode cX1_sumOf 18 = .ok (.iload_n 1, 1) := by decide +kernel
theorem dX1_sumOf_19 : decode cX1_sumOf 19 = .ok (.if_icmp .eq 27, 3) := by decide +kernel
theorem dX1_sumOf_22 : decode cX1_sumOf 22 = .ok (.iload 4, 2) := by decide +kernel
theorem dX1_sumOf_24 : decode cX1_sumOf 24 = .ok (.aload_n 0, 1) := by decide +kernel
theorem dX1_sumOf_25 : decode cX1_sumOf 25 = .ok (.iload_n 3, 1) := by decide +kernel
theorem dX1_sumOf_26 : decode cX1_sumOf 26 = .ok (.iload 5, 2) := by decide +kernel
theorem dX1_sumOf_28 : decode cX1_sumOf 28 = .ok (.invokevirtual 79, 3) := by decide +kernel
theorem dX1_sumOf_31 : decode cX1_sumOf 31 = .ok (.iadd, 1) := by decide +kernel
theorem dX1_sumOf_32 : decode cX1_sumOf 32 = .ok (.istore 4, 2) := by decide +kernel
theorem dX1_sumOf_34 : decode cX1_sumOf 34 = .ok (.aload_n 0, 1) := by decide +kernel
theorem dX1_sumOf_35 : decode cX1_sumOf 35 = .ok (.iload 5, 2) := by decide +kernel
theorem dX1_sumOf_37 : decode cX1_sumOf 37 = .ok (.iload_n 2, 1) := by decide +kernel
theorem dX1_sumOf_38 : decode cX1_sumOf 38 = .ok (.invokevirtual 59, 3) := by decide +kernel
theorem dX1_sumOf_41 : decode cX1_sumOf 41 = .ok (.istore 5, 2) := by decide +kernel
theorem dX1_sumOf_43 : decode cX1_sumOf 43 = .ok (.goto (-27), 3) := by decide +kernel
theorem dX1_sumOf_46 : decode cX1_sumOf 46 = .ok (.iload 4, 2) := by decide +kernel
theorem dX1_sumOf_48 : decode cX1_sumOf 48 = .ok (.ireturn, 1) := by decide +kernel
set_option maxRecDepth 20000 in
theorem ggX1_mean_X1_isHeap : GoodIn wsX1_mean wsX1_isHeap := goodIn_r _ [6, 7, 8, 9, 10, 5, 11, 12, 13, 14, 44, 45, 46, 47, 48, 49, 50, 51, 52] (by decide +kernel) (by decide +kernel)
set_option maxRecDepth 20000 in
theorem gX1_mean_X1_isHeap : GoodIn wsX1_mean (wsV RX1 49 RX1 yX1_isHeap wsX1_isHeap) := goodIn_app (goodIn_of _ (by decide +kernel)) ggX1_mean_X1_isHeap
set_option maxRecDepth 20000 in
theorem ggX1_mean_X1_isKind : GoodIn wsX1_mean wsX1_isKind := goodIn_r _ [17, 9, 10, 5, 11] (by decide +kernel) (by decide +kernel)
set_option maxRecDepth 20000 in
theorem gX1_mean_X1_isKind : GoodIn wsX1_mean (va_wsS RX1 56 yX1_isKind wsX1_isKind) := goodIn_app (goodIn_of _ (by decide +kernel)) ggX1_mean_X1_isKind
set_option maxRecDepth 20000 in
theorem ggX1_mean_X1_in : GoodIn wsX1_mean wsX1_in := goodIn_r _ [11] (by decide +kernel) (by decide +kernel)
set_option maxRecDepth 20000 in
theorem gX1_mean_X1_in : GoodIn wsX1_mean (va_wsS RX1 36 yX1_in wsX1_in) := goodIn_app (goodIn_of _ (by decide +kernel)) ggX1_mean_X1_in
set_option maxRecDepth 20000 in
theorem ggX1_mean_X1_sumOf : GoodIn wsX1_mean wsX1_sumOf := goodIn_r _ [21, 22, 23, 24, 5, 25, 7, 8, 26, 12, 13, 14, 27, 28, 29, 30, 31, 32, 33, 34, 35, 36, 2, 3, 4, 6, 9, 10, 11, 44, 45, 46, 47, 48, 49, 50, 51, 52] (by decide +kernel) (by decide +kernel)
set_option maxRecDepth 20000 in
theorem gX1_mean_X1_sumOf : GoodIn wsX1_mean (wsV RX1 82 RX1 yX1_sumOf wsX1_sumOf) := goodIn_app (goodIn_of _ (by decide +kernel)) ggX1_mean_X1_sumOf
set_option maxRecDepth 20000 in
theorem ggX1_mean_X1_orbitOf : GoodIn wsX1_mean wsX1_orbitOf := goodIn_r _ [40, 27, 28, 29, 5, 30, 31, 32, 7, 8, 33, 34, 35, 36, 2, 3, 4, 6, 9, 10, 11, 12, 13, 14, 44, 45, 46, 47, 48, 49, 50, 51, 52] (by decide +kernel) (by decide +kernel)
set_option maxRecDepth 20000 in
theorem gX1_mean_X1_orbitOf : GoodIn wsX1_mean (wsV RX1 62 RX1 yX1_orbitOf wsX1_orbitOf) := goodIn_app (goodIn_of _ (by decide +kernel)) ggX1_mean_X1_orbitOf
set_option maxRecDepth 20000 in
theorem ggX1_mean_X1_common : GoodIn wsX1_mean wsX1_common := goodIn_r _ [43] (by decide +kernel) (by decide +kernel)
set_option maxRecDepth 20000 in
theorem gX1_mean_X1_common : GoodIn wsX1_mean (va_wsS RX1 67 yX1_common wsX1_common) := goodIn_app (goodIn_of _ (by decide +kernel)) ggX1_mean_X1_common
theorem dX1_mean_0 : decode cX1_mean 0 = .ok (.aload_n 0, 1) := by decide +kernel
theorem dX1_mean_1 : decode cX1_mean 1 = .ok (.iload_n 1, 1) := by decide +kernel
theorem dX1_mean_2 : decode cX1_mean 2 = .ok (.invokevirtual 49, 3) := by decide +kernel
theorem dX1_mean_5 : decode cX1_mean 5 = .ok (.ifCond .eq 29, 3) := by decide +kernel
theorem dX1_mean_8 : decode cX1_mean 8 = .ok (.iload_n 2, 1) := by decide +kernel
theorem dX1_mean_9 : decode cX1_mean 9 = .ok (.invokestatic 56, 3) := by decide +kernel
theorem dX1_mean_12 : decode cX1_mean 12 = .ok (.ifCond .eq 22, 3) := by decide +kernel
theorem dX1_mean_15 : decode cX1_mean 15 = .ok (.iload_n 3, 1) := by decide +kernel
theorem dX1_mean_16 : decode cX1_mean 16 = .ok (.iconst 0, 1) := by decide +kernel
theorem dX1_mean_17 : decode cX1_mean 17 = .ok (.iconst 2, 1) := by decide +kernel
theorem dX1_mean_18 : decode cX1_mean 18 = .ok (.invokestatic 36, 3) := by decide +kernel
theorem dX1_mean_21 : decode cX1_mean 21 = .ok (.ifCond .eq 13, 3) := by decide +kernel
theorem dX1_mean_24 : decode cX1_mean 24 = .ok (.iload 4, 2) := by decide +kernel
theorem dX1_mean_26 : decode cX1_mean 26 = .ok (.iconst 0, 1) := by decide +kernel
theorem dX1_mean_27 : decode cX1_mean 27 = .ok (.iconst 1, 1) := by decide +kernel
theorem dX1_mean_28 : decode cX1_mean 28 = .ok (.invokestatic 36, 3) := by decide +kernel
theorem dX1_mean_31 : decode cX1_mean 31 = .ok (.ifCond .ne 6, 3) := by decide +kernel
theorem dX1_mean_34 : decode cX1_mean 34 = .ok (.ldc 44, 2) := by decide +kernel
theorem dX1_mean_36 : decode cX1_mean 36 = .ok (.ireturn, 1) := by decide +kernel
theorem dX1_mean_37 : decode cX1_mean 37 = .ok (.aload_n 0, 1) := by decide +kernel
theorem dX1_mean_38 : decode cX1_mean 38 = .ok (.iload_n 1, 1) := by decide +kernel
theorem dX1_mean_39 : decode cX1_mean 39 = .ok (.iload_n 2, 1) := by decide +kernel
theorem dX1_mean_40 : decode cX1_mean 40 = .ok (.iload_n 3, 1) := by decide +kernel
theorem dX1_mean_41 : decode cX1_mean 41 = .ok (.invokevirtual 82, 3) := by decide +kernel
theorem dX1_mean_44 : decode cX1_mean 44 = .ok (.istore 5, 2) := by decide +kernel
theorem dX1_mean_46 : decode cX1_mean 46 = .ok (.aload_n 0, 1) := by decide +kernel
theorem dX1_mean_47 : decode cX1_mean 47 = .ok (.iload_n 1, 1) := by decide +kernel
theorem dX1_mean_48 : decode cX1_mean 48 = .ok (.iload_n 2, 1) := by decide +kernel
theorem dX1_mean_49 : decode cX1_mean 49 = .ok (.invokevirtual 62, 3) := by decide +kernel
theorem dX1_mean_52 : decode cX1_mean 52 = .ok (.istore 6, 2) := by decide +kernel
theorem dX1_mean_54 : decode cX1_mean 54 = .ok (.iload 5, 2) := by decide +kernel
theorem dX1_mean_56 : decode cX1_mean 56 = .ok (.i2l, 1) := by decide +kernel
theorem dX1_mean_57 : decode cX1_mean 57 = .ok (.iload 6, 2) := by decide +kernel
theorem dX1_mean_59 : decode cX1_mean 59 = .ok (.i2l, 1) := by decide +kernel
theorem dX1_mean_60 : decode cX1_mean 60 = .ok (.invokestatic 67, 3) := by decide +kernel
theorem dX1_mean_63 : decode cX1_mean 63 = .ok (.l2i, 1) := by decide +kernel
theorem dX1_mean_64 : decode cX1_mean 64 = .ok (.istore 7, 2) := by decide +kernel
theorem dX1_mean_66 : decode cX1_mean 66 = .ok (.iload 4, 2) := by decide +kernel
theorem dX1_mean_68 : decode cX1_mean 68 = .ok (.ifCond .ne 11, 3) := by decide +kernel
theorem dX1_mean_71 : decode cX1_mean 71 = .ok (.iload 5, 2) := by decide +kernel
theorem dX1_mean_73 : decode cX1_mean 73 = .ok (.iload 7, 2) := by decide +kernel
theorem dX1_mean_75 : decode cX1_mean 75 = .ok (.idiv, 1) := by decide +kernel
theorem dX1_mean_76 : decode cX1_mean 76 = .ok (.goto 8, 3) := by decide +kernel
theorem dX1_mean_79 : decode cX1_mean 79 = .ok (.iload 6, 2) := by decide +kernel
theorem dX1_mean_81 : decode cX1_mean 81 = .ok (.iload 7, 2) := by decide +kernel
theorem dX1_mean_83 : decode cX1_mean 83 = .ok (.idiv, 1) := by decide +kernel
theorem dX1_mean_84 : decode cX1_mean 84 = .ok (.ireturn, 1) := by decide +kernel
set_option maxRecDepth 20000 in
theorem ggX1_even_X1_isKind : GoodIn wsX1_even wsX1_isKind := goodIn_r _ [5, 6, 7, 4, 8] (by decide +kernel) (by decide +kernel)
set_option maxRecDepth 20000 in
theorem gX1_even_X1_isKind : GoodIn wsX1_even (va_wsS RX1 56 yX1_isKind wsX1_isKind) := goodIn_app (goodIn_of _ (by decide +kernel)) ggX1_even_X1_isKind
set_option maxRecDepth 20000 in
theorem ggX1_even_X1_in : GoodIn wsX1_even wsX1_in := goodIn_r _ [8] (by decide +kernel) (by decide +kernel)
set_option maxRecDepth 20000 in
theorem gX1_even_X1_in : GoodIn wsX1_even (va_wsS RX1 36 yX1_in wsX1_in) := goodIn_app (goodIn_of _ (by decide +kernel)) ggX1_even_X1_in
set_option maxRecDepth 20000 in
theorem ggX1_even_X1_sumOf : GoodIn wsX1_even wsX1_sumOf := goodIn_r _ [12, 13, 14, 15, 4, 16, 1, 17, 18, 19, 20, 21, 22, 23, 24, 25, 26, 27, 28, 29, 30, 31, 32, 33, 34, 35, 6, 7, 8, 40, 41, 42, 43, 44, 45, 46, 47, 48] (by decide +kernel) (by decide +kernel)
set_option maxRecDepth 20000 in
theorem gX1_even_X1_sumOf : GoodIn wsX1_even (wsV RX1 82 RX1 yX1_sumOf wsX1_sumOf) := goodIn_app (goodIn_of _ (by decide +kernel)) ggX1_even_X1_sumOf
set_option maxRecDepth 20000 in
theorem ggX1_even_X1_orbitOf : GoodIn wsX1_even wsX1_orbitOf := goodIn_r _ [39, 22, 23, 24, 4, 25, 26, 27, 1, 17, 28, 29, 30, 31, 32, 33, 34, 35, 6, 7, 8, 19, 20, 21, 40, 41, 42, 43, 44, 45, 46, 47, 48] (by decide +kernel) (by decide +kernel)
set_option maxRecDepth 20000 in
theorem gX1_even_X1_orbitOf : GoodIn wsX1_even (wsV RX1 62 RX1 yX1_orbitOf wsX1_orbitOf) := goodIn_app (goodIn_of _ (by decide +kernel)) ggX1_even_X1_orbitOf
set_option maxRecDepth 20000 in
theorem ggX1_even_X1_isHeap : GoodIn wsX1_even wsX1_isHeap := goodIn_r _ [35, 1, 17, 6, 7, 4, 8, 19, 20, 21, 40, 41, 42, 43, 44, 45, 46, 47, 48] (by decide +kernel) (by decide +kernel)
set_option maxRecDepth 20000 in
theorem gX1_even_X1_isHeap : GoodIn wsX1_even (wsV RX1 49 RX1 yX1_isHeap wsX1_isHeap) := goodIn_app (goodIn_of _ (by decide +kernel)) ggX1_even_X1_isHeap
theorem dX1_even_0 : decode cX1_even 0 = .ok (.iload_n 1, 1) := by decide +kernel
theorem dX1_even_1 : decode cX1_even 1 = .ok (.invokestatic 56, 3) := by decide +kernel
theorem dX1_even_4 : decode cX1_even 4 = .ok (.ifCond .eq 12, 3) := by decide +kernel
theorem dX1_even_7 : decode cX1_even 7 = .ok (.iload_n 2, 1) := by decide +kernel
theorem dX1_even_8 : decode cX1_even 8 = .ok (.iconst 0, 1) := by decide +kernel
theorem dX1_even_9 : decode cX1_even 9 = .ok (.iconst 2, 1) := by decide +kernel
theorem dX1_even_10 : decode cX1_even 10 = .ok (.invokestatic 36, 3) := by decide +kernel
theorem dX1_even_13 : decode cX1_even 13 = .ok (.ifCond .ne 5, 3) := by decide +kernel
theorem dX1_even_16 : decode cX1_even 16 = .ok (.iconst (-1), 1) := by decide +kernel
theorem dX1_even_17 : decode cX1_even 17 = .ok (.ireturn, 1) := by decide +kernel
theorem dX1_even_18 : decode cX1_even 18 = .ok (.aload_n 0, 1) := by decide +kernel
theorem dX1_even_19 : decode cX1_even 19 = .ok (.iconst 0, 1) := by decide +kernel
theorem dX1_even_20 : decode cX1_even 20 = .ok (.iload_n 1, 1) := by decide +kernel
theorem dX1_even_21 : decode cX1_even 21 = .ok (.iload_n 2, 1) := by decide +kernel
theorem dX1_even_22 : decode cX1_even 22 = .ok (.invokevirtual 82, 3) := by decide +kernel
theorem dX1_even_25 : decode cX1_even 25 = .ok (.istore_n 3, 1) := by decide +kernel
theorem dX1_even_26 : decode cX1_even 26 = .ok (.aload_n 0, 1) := by decide +kernel
theorem dX1_even_27 : decode cX1_even 27 = .ok (.iconst 0, 1) := by decide +kernel
theorem dX1_even_28 : decode cX1_even 28 = .ok (.iload_n 1, 1) := by decide +kernel
theorem dX1_even_29 : decode cX1_even 29 = .ok (.invokevirtual 62, 3) := by decide +kernel
theorem dX1_even_32 : decode cX1_even 32 = .ok (.istore 4, 2) := by decide +kernel
theorem dX1_even_34 : decode cX1_even 34 = .ok (.iconst 1, 1) := by decide +kernel
theorem dX1_even_35 : decode cX1_even 35 = .ok (.istore 5, 2) := by decide +kernel
theorem dX1_even_37 : decode cX1_even 37 = .ok (.iconst 1, 1) := by decide +kernel
theorem dX1_even_38 : decode cX1_even 38 = .ok (.istore 6, 2) := by decide +kernel
theorem dX1_even_40 : decode cX1_even 40 = .ok (.iload 6, 2) := by decide +kernel
theorem dX1_even_42 : decode cX1_even 42 = .ok (.iconst 1, 1) := by decide +kernel
theorem dX1_even_43 : decode cX1_even 43 = .ok (.aload_n 0, 1) := by decide +kernel
theorem dX1_even_44 : decode cX1_even 44 = .ok (.getfield 7, 3) := by decide +kernel
theorem dX1_even_47 : decode cX1_even 47 = .ok (.ishl, 1) := by decide +kernel
theorem dX1_even_48 : decode cX1_even 48 = .ok (.if_icmp .ge 53, 3) := by decide +kernel
theorem dX1_even_51 : decode cX1_even 51 = .ok (.iload 5, 2) := by decide +kernel
theorem dX1_even_53 : decode cX1_even 53 = .ok (.ifCond .eq 39, 3) := by decide +kernel
theorem dX1_even_56 : decode cX1_even 56 = .ok (.aload_n 0, 1) := by decide +kernel
theorem dX1_even_57 : decode cX1_even 57 = .ok (.iload 6, 2) := by decide +kernel
theorem dX1_even_59 : decode cX1_even 59 = .ok (.invokevirtual 49, 3) := by decide +kernel
theorem dX1_even_62 : decode cX1_even 62 = .ok (.ifCond .eq 26, 3) := by decide +kernel
theorem dX1_even_65 : decode cX1_even 65 = .ok (.aload_n 0, 1) := by decide +kernel
theorem dX1_even_66 : decode cX1_even 66 = .ok (.iload 6, 2) := by decide +kernel
theorem dX1_even_68 : decode cX1_even 68 = .ok (.iload_n 1, 1) := by decide +kernel
theorem dX1_even_69 : decode cX1_even 69 = .ok (.iload_n 2, 1) := by decide +kernel
theorem dX1_even_70 : decode cX1_even 70 = .ok (.invokevirtual 82, 3) := by decide +kernel
theorem dX1_even_73 : decode cX1_even 73 = .ok (.iload 4, 2) := by decide +kernel
theorem dX1_even_75 : decode cX1_even 75 = .ok (.imul, 1) := by decide +kernel
theorem dX1_even_76 : decode cX1_even 76 = .ok (.iload_n 3, 1) := by decide +kernel
theorem dX1_even_77 : decode cX1_even 77 = .ok (.aload_n 0, 1) := by decide +kernel
theorem dX1_even_78 : decode cX1_even 78 = .ok (.iload 6, 2) := by decide +kernel
theorem dX1_even_80 : decode cX1_even 80 = .ok (.iload_n 1, 1) := by decide +kernel
theorem dX1_even_81 : decode cX1_even 81 = .ok (.invokevirtual 62, 3) := by decide +kernel
theorem dX1_even_84 : decode cX1_even 84 = .ok (.imul, 1) := by decide +kernel
theorem dX1_even_85 : decode cX1_even 85 = .ok (.if_icmp .ne 7, 3) := by decide +kernel
theorem dX1_even_88 : decode cX1_even 88 = .ok (.iconst 1, 1) := by decide +kernel
theorem dX1_even_89 : decode cX1_even 89 = .ok (.goto 4, 3) := by decide +kernel
theorem dX1_even_92 : decode cX1_even 92 = .ok (.iconst 0, 1) := by decide +kernel
theorem dX1_even_93 : decode cX1_even 93 = .ok (.istore 5, 2) := by decide +kernel
theorem dX1_even_95 : decode cX1_even 95 = .ok (.iinc 6 1, 3) := by decide +kernel
theorem dX1_even_98 : decode cX1_even 98 = .ok (.goto (-58), 3) := by decide +kernel
theorem dX1_even_101 : decode cX1_even 101 = .ok (.iload 5, 2) := by decide +kernel
theorem dX1_even_103 : decode cX1_even 103 = .ok (.ifCond .eq 7, 3) := by decide +kernel
theorem dX1_even_106 : decode cX1_even 106 = .ok (.iconst 1, 1) := by decide +kernel
theorem dX1_even_107 : decode cX1_even 107 = .ok (.goto 4, 3) := by decide +kernel
theorem dX1_even_110 : decode cX1_even 110 = .ok (.iconst 0, 1) := by decide +kernel
theorem dX1_even_111 : decode cX1_even 111 = .ok (.ireturn, 1) := by decide +kernel
theorem dX1_take_0 : decode cX1_take 0 = .ok (.iload_n 2, 1) := by decide +kernel
theorem dX1_take_1 : decode cX1_take 1 = .ok (.istore_n 3, 1) := by decide +kernel
theorem dX1_take_2 : decode cX1_take 2 = .ok (.iconst 0, 1) := by decide +kernel
theorem dX1_take_3 : decode cX1_take 3 = .ok (.istore 4, 2) := by decide +kernel
theorem dX1_take_5 : decode cX1_take 5 = .ok (.iload 4, 2) := by decide +kernel
theorem dX1_take_7 : decode cX1_take 7 = .ok (.aload_n 0, 1) := by decide +kernel
theorem dX1_take_8 : decode cX1_take 8 = .ok (.getfield 7, 3) := by decide +kernel
theorem dX1_take_11 : decode cX1_take 11 = .ok (.if_icmp .ge 27, 3) := by decide +kernel
theorem dX1_take_14 : decode cX1_take 14 = .ok (.aload_n 0, 1) := by decide +kernel
theorem dX1_take_15 : decode cX1_take 15 = .ok (.getfield 27, 3) := by decide +kernel
theorem dX1_take_18 : decode cX1_take 18 = .ok (.iload 4, 2) := by decide +kernel
theorem dX1_take_20 : decode cX1_take 20 = .ok (.iload_n 3, 1) := by decide +kernel
theorem dX1_take_21 : decode cX1_take 21 = .ok (.iload_n 1, 1) := by decide +kernel
theorem dX1_take_22 : decode cX1_take 22 = .ok (.iconst 1, 1) := by decide +kernel
theorem dX1_take_23 : decode cX1_take 23 = .ok (.iadd, 1) := by decide +kernel
theorem dX1_take_24 : decode cX1_take 24 = .ok (.irem, 1) := by decide +kernel
theorem dX1_take_25 : decode cX1_take 25 = .ok (.iastore, 1) := by decide +kernel
theorem dX1_take_26 : decode cX1_take 26 = .ok (.iload_n 3, 1) := by decide +kernel
theorem dX1_take_27 : decode cX1_take 27 = .ok (.iload_n 1, 1) := by decide +kernel
theorem dX1_take_28 : decode cX1_take 28 = .ok (.iconst 1, 1) := by decide +kernel
theorem dX1_take_29 : decode cX1_take 29 = .ok (.iadd, 1) := by decide +kernel
theorem dX1_take_30 : decode cX1_take 30 = .ok (.idiv, 1) := by decide +kernel
theorem dX1_take_31 : decode cX1_take 31 = .ok (.istore_n 3, 1) := by decide +kernel
theorem dX1_take_32 : decode cX1_take 32 = .ok (.iinc 4 1, 3) := by decide +kernel
theorem dX1_take_35 : decode cX1_take 35 = .ok (.goto (-30), 3) := by decide +kernel
theorem dX1_take_38 : decode cX1_take 38 = .ok (.iload_n 3, 1) := by decide +kernel
theorem dX1_take_39 : decode cX1_take 39 = .ok (.ifCond .ne 11, 3) := by decide +kernel
theorem dX1_take_42 : decode cX1_take 42 = .ok (.iload_n 2, 1) := by decide +kernel
theorem dX1_take_43 : decode cX1_take 43 = .ok (.ifCond .lt 7, 3) := by decide +kernel
theorem dX1_take_46 : decode cX1_take 46 = .ok (.iconst 1, 1) := by decide +kernel
theorem dX1_take_47 : decode cX1_take 47 = .ok (.goto 4, 3) := by decide +kernel
theorem dX1_take_50 : decode cX1_take 50 = .ok (.iconst 0, 1) := by decide +kernel
theorem dX1_take_51 : decode cX1_take 51 = .ok (.istore 4, 2) := by decide +kernel
theorem dX1_take_53 : decode cX1_take 53 = .ok (.iconst 0, 1) := by decide +kernel
theorem dX1_take_54 : decode cX1_take 54 = .ok (.istore 5, 2) := by decide +kernel
theorem dX1_take_56 : decode cX1_take 56 = .ok (.iload 5, 2) := by decide +kernel
theorem dX1_take_58 : decode cX1_take 58 = .ok (.aload_n 0, 1) := by decide +kernel
theorem dX1_take_59 : decode cX1_take 59 = .ok (.getfield 7, 3) := by decide +kernel
theorem dX1_take_62 : decode cX1_take 62 = .ok (.if_icmp .ge 75, 3) := by decide +kernel
theorem dX1_take_65 : decode cX1_take 65 = .ok (.iload 5, 2) := by decide +kernel
theorem dX1_take_67 : decode cX1_take 67 = .ok (.iconst 1, 1) := by decide +kernel
theorem dX1_take_68 : decode cX1_take 68 = .ok (.iadd, 1) := by decide +kernel
theorem dX1_take_69 : decode cX1_take 69 = .ok (.istore 6, 2) := by decide +kernel
theorem dX1_take_71 : decode cX1_take 71 = .ok (.iload 6, 2) := by decide +kernel
theorem dX1_take_73 : decode cX1_take 73 = .ok (.aload_n 0, 1) := by decide +kernel
theorem dX1_take_74 : decode cX1_take 74 = .ok (.getfield 7, 3) := by decide +kernel
theorem dX1_take_77 : decode cX1_take 77 = .ok (.if_icmp .ge 54, 3) := by decide +kernel
theorem dX1_take_80 : decode cX1_take 80 = .ok (.iload 4, 2) := by decide +kernel
theorem dX1_take_82 : decode cX1_take 82 = .ok (.ifCond .eq 40, 3) := by decide +kernel
theorem dX1_take_85 : decode cX1_take 85 = .ok (.aload_n 0, 1) := by decide +kernel
theorem dX1_take_86 : decode cX1_take 86 = .ok (.getfield 13, 3) := by decide +kernel
theorem dX1_take_89 : decode cX1_take 89 = .ok (.bipush 8, 2) := by decide +kernel
theorem dX1_take_91 : decode cX1_take 91 = .ok (.iload 5, 2) := by decide +kernel
theorem dX1_take_93 : decode cX1_take 93 = .ok (.imul, 1) := by decide +kernel
theorem dX1_take_94 : decode cX1_take 94 = .ok (.iload 6, 2) := by decide +kernel
theorem dX1_take_96 : decode cX1_take 96 = .ok (.iadd, 1) := by decide +kernel
theorem dX1_take_97 : decode cX1_take 97 = .ok (.baload, 1) := by decide +kernel
theorem dX1_take_98 : decode cX1_take 98 = .ok (.ifCond .eq 20, 3) := by decide +kernel
theorem dX1_take_101 : decode cX1_take 101 = .ok (.aload_n 0, 1) := by decide +kernel
theorem dX1_take_102 : decode cX1_take 102 = .ok (.getfield 27, 3) := by decide +kernel
theorem dX1_take_105 : decode cX1_take 105 = .ok (.iload 5, 2) := by decide +kernel
theorem dX1_take_107 : decode cX1_take 107 = .ok (.iaload, 1) := by decide +kernel
theorem dX1_take_108 : decode cX1_take 108 = .ok (.aload_n 0, 1) := by decide +kernel
theorem dX1_take_109 : decode cX1_take 109 = .ok (.getfield 27, 3) := by decide +kernel
theorem dX1_take_112 : decode cX1_take 112 = .ok (.iload 6, 2) := by decide +kernel
theorem dX1_take_114 : decode cX1_take 114 = .ok (.iaload, 1) := by decide +kernel
theorem dX1_take_115 : decode cX1_take 115 = .ok (.if_icmp .lt 7, 3) := by decide +kernel
theorem dX1_take_118 : decode cX1_take 118 = .ok (.iconst 1, 1) := by decide +kernel
theorem dX1_take_119 : decode cX1_take 119 = .ok (.goto 4, 3) := by decide +kernel
theorem dX1_take_122 : decode cX1_take 122 = .ok (.iconst 0, 1) := by decide +kernel
theorem dX1_take_123 : decode cX1_take 123 = .ok (.istore 4, 2) := by decide +kernel
theorem dX1_take_125 : decode cX1_take 125 = .ok (.iinc 6 1, 3) := by decide +kernel
theorem dX1_take_128 : decode cX1_take 128 = .ok (.goto (-57), 3) := by decide +kernel
theorem dX1_take_131 : decode cX1_take 131 = .ok (.iinc 5 1, 3) := by decide +kernel
theorem dX1_take_134 : decode cX1_take 134 = .ok (.goto (-78), 3) := by decide +kernel
theorem dX1_take_137 : decode cX1_take 137 = .ok (.iload 4, 2) := by decide +kernel
theorem dX1_take_139 : decode cX1_take 139 = .ok (.ireturn, 1) := by decide +kernel
theorem dX1_number_0 : decode cX1_number 0 = .ok (.iconst 0, 1) := by decide +kernel
theorem dX1_number_1 : decode cX1_number 1 = .ok (.istore_n 2, 1) := by decide +kernel
theorem dX1_number_2 : decode cX1_number 2 = .ok (.aload_n 0, 1) := by decide +kernel
theorem dX1_number_3 : decode cX1_number 3 = .ok (.getfield 7, 3) := by decide +kernel
theorem dX1_number_6 : decode cX1_number 6 = .ok (.iconst 1, 1) := by decide +kernel
theorem dX1_number_7 : decode cX1_number 7 = .ok (.isub, 1) := by decide +kernel
theorem dX1_number_8 : decode cX1_number 8 = .ok (.istore_n 3, 1) := by decide +kernel
theorem dX1_number_9 : decode cX1_number 9 = .ok (.iload_n 3, 1) := by decide +kernel
theorem dX1_number_10 : decode cX1_number 10 = .ok (.ifCond .lt 22, 3) := by decide +kernel
theorem dX1_number_13 : decode cX1_number 13 = .ok (.iload_n 1, 1) := by decide +kernel
theorem dX1_number_14 : decode cX1_number 14 = .ok (.iconst 1, 1) := by decide +kernel
theorem dX1_number_15 : decode cX1_number 15 = .ok (.iadd, 1) := by decide +kernel
theorem dX1_number_16 : decode cX1_number 16 = .ok (.iload_n 2, 1) := by decide +kernel
theorem dX1_number_17 : decode cX1_number 17 = .ok (.imul, 1) := by decide +kernel
theorem dX1_number_18 : decode cX1_number 18 = .ok (.aload_n 0, 1) := by decide +kernel
theorem dX1_number_19 : decode cX1_number 19 = .ok (.getfield 27, 3) := by decide +kernel
theorem dX1_number_22 : decode cX1_number 22 = .ok (.iload_n 3, 1) := by decide +kernel
theorem dX1_number_23 : decode cX1_number 23 = .ok (.iaload, 1) := by decide +kernel
theorem dX1_number_24 : decode cX1_number 24 = .ok (.iadd, 1) := by decide +kernel
theorem dX1_number_25 : decode cX1_number 25 = .ok (.istore_n 2, 1) := by decide +kernel
theorem dX1_number_26 : decode cX1_number 26 = .ok (.iinc 3 (-1), 3) := by decide +kernel
theorem dX1_number_29 : decode cX1_number 29 = .ok (.goto (-20), 3) := by decide +kernel
theorem dX1_number_32 : decode cX1_number 32 = .ok (.iload_n 2, 1) := by decide +kernel
theorem dX1_number_33 : decode cX1_number 33 = .ok (.ireturn, 1) := by decide +kernel
theorem dX1_bends_0 : decode cX1_bends 0 = .ok (.iload_n 1, 1) := by decide +kernel
theorem dX1_bends_1 : decode cX1_bends 1 = .ok (.istore_n 3, 1) := by decide +kernel
theorem dX1_bends_2 : decode cX1_bends 2 = .ok (.iconst 0, 1) := by decide +kernel
theorem dX1_bends_3 : decode cX1_bends 3 = .ok (.istore 4, 2) := by decide +kernel
theorem dX1_bends_5 : decode cX1_bends 5 = .ok (.iconst 0, 1) := by decide +kernel
theorem dX1_bends_6 : decode cX1_bends 6 = .ok (.istore 5, 2) := by decide +kernel
theorem dX1_bends_8 : decode cX1_bends 8 = .ok (.iload 5, 2) := by decide +kernel
theorem dX1_bends_10 : decode cX1_bends 10 = .ok (.aload_n 0, 1) := by decide +kernel
theorem dX1_bends_11 : decode cX1_bends 11 = .ok (.getfield 7, 3) := by decide +kernel
theorem dX1_bends_14 : decode cX1_bends 14 = .ok (.if_icmp .ge 88, 3) := by decide +kernel
theorem dX1_bends_17 : decode cX1_bends 17 = .ok (.aload_n 0, 1) := by decide +kernel
theorem dX1_bends_18 : decode cX1_bends 18 = .ok (.getfield 13, 3) := by decide +kernel
theorem dX1_bends_21 : decode cX1_bends 21 = .ok (.bipush 8, 2) := by decide +kernel
theorem dX1_bends_23 : decode cX1_bends 23 = .ok (.iload 5, 2) := by decide +kernel
theorem dX1_bends_25 : decode cX1_bends 25 = .ok (.imul, 1) := by decide +kernel
theorem dX1_bends_26 : decode cX1_bends 26 = .ok (.iload_n 2, 1) := by decide +kernel
theorem dX1_bends_27 : decode cX1_bends 27 = .ok (.iadd, 1) := by decide +kernel
theorem dX1_bends_28 : decode cX1_bends 28 = .ok (.baload, 1) := by decide +kernel
theorem dX1_bends_29 : decode cX1_bends 29 = .ok (.ifCond .eq 24, 3) := by decide +kernel
theorem dX1_bends_32 : decode cX1_bends 32 = .ok (.aload_n 0, 1) := by decide +kernel
theorem dX1_bends_33 : decode cX1_bends 33 = .ok (.getfield 27, 3) := by decide +kernel
theorem dX1_bends_36 : decode cX1_bends 36 = .ok (.iload 5, 2) := by decide +kernel
theorem dX1_bends_38 : decode cX1_bends 38 = .ok (.iaload, 1) := by decide +kernel
theorem dX1_bends_39 : decode cX1_bends 39 = .ok (.iload_n 3, 1) := by decide +kernel
theorem dX1_bends_40 : decode cX1_bends 40 = .ok (.if_icmp .ge 13, 3) := by decide +kernel
theorem dX1_bends_43 : decode cX1_bends 43 = .ok (.aload_n 0, 1) := by decide +kernel
theorem dX1_bends_44 : decode cX1_bends 44 = .ok (.getfield 27, 3) := by decide +kernel
theorem dX1_bends_47 : decode cX1_bends 47 = .ok (.iload 5, 2) := by decide +kernel
theorem dX1_bends_49 : decode cX1_bends 49 = .ok (.iaload, 1) := by decide +kernel
theorem dX1_bends_50 : decode cX1_bends 50 = .ok (.goto 4, 3) := by decide +kernel
theorem dX1_bends_53 : decode cX1_bends 53 = .ok (.iload_n 3, 1) := by decide +kernel
theorem dX1_bends_54 : decode cX1_bends 54 = .ok (.istore_n 3, 1) := by decide +kernel
theorem dX1_bends_55 : decode cX1_bends 55 = .ok (.aload_n 0, 1) := by decide +kernel
theorem dX1_bends_56 : decode cX1_bends 56 = .ok (.getfield 13, 3) := by decide +kernel
theorem dX1_bends_59 : decode cX1_bends 59 = .ok (.bipush 8, 2) := by decide +kernel
theorem dX1_bends_61 : decode cX1_bends 61 = .ok (.iload_n 2, 1) := by decide +kernel
theorem dX1_bends_62 : decode cX1_bends 62 = .ok (.imul, 1) := by decide +kernel
theorem dX1_bends_63 : decode cX1_bends 63 = .ok (.iload 5, 2) := by decide +kernel
theorem dX1_bends_65 : decode cX1_bends 65 = .ok (.iadd, 1) := by decide +kernel
theorem dX1_bends_66 : decode cX1_bends 66 = .ok (.baload, 1) := by decide +kernel
theorem dX1_bends_67 : decode cX1_bends 67 = .ok (.ifCond .eq 25, 3) := by decide +kernel
theorem dX1_bends_70 : decode cX1_bends 70 = .ok (.aload_n 0, 1) := by decide +kernel
theorem dX1_bends_71 : decode cX1_bends 71 = .ok (.getfield 27, 3) := by decide +kernel
theorem dX1_bends_74 : decode cX1_bends 74 = .ok (.iload 5, 2) := by decide +kernel
theorem dX1_bends_76 : decode cX1_bends 76 = .ok (.iaload, 1) := by decide +kernel
theorem dX1_bends_77 : decode cX1_bends 77 = .ok (.iload 4, 2) := by decide +kernel
theorem dX1_bends_79 : decode cX1_bends 79 = .ok (.if_icmp .le 13, 3) := by decide +kernel
theorem dX1_bends_82 : decode cX1_bends 82 = .ok (.aload_n 0, 1) := by decide +kernel
theorem dX1_bends_83 : decode cX1_bends 83 = .ok (.getfield 27, 3) := by decide +kernel
theorem dX1_bends_86 : decode cX1_bends 86 = .ok (.iload 5, 2) := by decide +kernel
theorem dX1_bends_88 : decode cX1_bends 88 = .ok (.iaload, 1) := by decide +kernel
theorem dX1_bends_89 : decode cX1_bends 89 = .ok (.goto 5, 3) := by decide +kernel
theorem dX1_bends_92 : decode cX1_bends 92 = .ok (.iload 4, 2) := by decide +kernel
theorem dX1_bends_94 : decode cX1_bends 94 = .ok (.istore 4, 2) := by decide +kernel
theorem dX1_bends_96 : decode cX1_bends 96 = .ok (.iinc 5 1, 3) := by decide +kernel
theorem dX1_bends_99 : decode cX1_bends 99 = .ok (.goto (-91), 3) := by decide +kernel
theorem dX1_bends_102 : decode cX1_bends 102 = .ok (.aload_n 0, 1) := by decide +kernel
theorem dX1_bends_103 : decode cX1_bends 103 = .ok (.getfield 27, 3) := by decide +kernel
theorem dX1_bends_106 : decode cX1_bends 106 = .ok (.iload_n 2, 1) := by decide +kernel
theorem dX1_bends_107 : decode cX1_bends 107 = .ok (.iload_n 3, 1) := by decide +kernel
theorem dX1_bends_108 : decode cX1_bends 108 = .ok (.iload 4, 2) := by decide +kernel
theorem dX1_bends_110 : decode cX1_bends 110 = .ok (.iadd, 1) := by decide +kernel
theorem dX1_bends_111 : decode cX1_bends 111 = .ok (.aload_n 0, 1) := by decide +kernel
theorem dX1_bends_112 : decode cX1_bends 112 = .ok (.getfield 27, 3) := by decide +kernel
theorem dX1_bends_115 : decode cX1_bends 115 = .ok (.iload_n 2, 1) := by decide +kernel
theorem dX1_bends_116 : decode cX1_bends 116 = .ok (.iaload, 1) := by decide +kernel
theorem dX1_bends_117 : decode cX1_bends 117 = .ok (.isub, 1) := by decide +kernel
theorem dX1_bends_118 : decode cX1_bends 118 = .ok (.iastore, 1) := by decide +kernel
theorem dX1_bends_119 : decode cX1_bends 119 = .ok (.return_, 1) := by decide +kernel
set_option maxRecDepth 20000 in
theorem ggX1_rounds_X1_bends : GoodIn wsX1_rounds wsX1_bends := goodIn_r _ [8, 3, 9, 10, 11, 12, 13, 14, 15, 16, 17, 18, 19] (by decide +kernel) (by decide +kernel)
set_option maxRecDepth 20000 in
theorem gX1_rounds_X1_bends : GoodIn wsX1_rounds (wsV RX1 86 RX1 yX1_bends wsX1_bends) := goodIn_app (goodIn_of _ (by decide +kernel)) ggX1_rounds_X1_bends
theorem dX1_rounds_0 : decode cX1_rounds 0 = .ok (.iload_n 2, 1) := by decide +kernel
theorem dX1_rounds_1 : decode cX1_rounds 1 = .ok (.iconst 1, 1) := by decide +kernel
theorem dX1_rounds_2 : decode cX1_rounds 2 = .ok (.if_icmp .ne 33, 3) := by decide +kernel
theorem dX1_rounds_5 : decode cX1_rounds 5 = .ok (.iconst 0, 1) := by decide +kernel
theorem dX1_rounds_6 : decode cX1_rounds 6 = .ok (.istore_n 3, 1) := by decide +kernel
theorem dX1_rounds_7 : decode cX1_rounds 7 = .ok (.iload_n 3, 1) := by decide +kernel
theorem dX1_rounds_8 : decode cX1_rounds 8 = .ok (.aload_n 0, 1) := by decide +kernel
theorem dX1_rounds_9 : decode cX1_rounds 9 = .ok (.getfield 33, 3) := by decide +kernel
theorem dX1_rounds_12 : decode cX1_rounds 12 = .ok (.if_icmp .ge 20, 3) := by decide +kernel
theorem dX1_rounds_15 : decode cX1_rounds 15 = .ok (.aload_n 0, 1) := by decide +kernel
theorem dX1_rounds_16 : decode cX1_rounds 16 = .ok (.iload_n 1, 1) := by decide +kernel
theorem dX1_rounds_17 : decode cX1_rounds 17 = .ok (.aload_n 0, 1) := by decide +kernel
theorem dX1_rounds_18 : decode cX1_rounds 18 = .ok (.getfield 21, 3) := by decide +kernel
theorem dX1_rounds_21 : decode cX1_rounds 21 = .ok (.iload_n 3, 1) := by decide +kernel
theorem dX1_rounds_22 : decode cX1_rounds 22 = .ok (.iaload, 1) := by decide +kernel
theorem dX1_rounds_23 : decode cX1_rounds 23 = .ok (.invokevirtual 86, 3) := by decide +kernel
theorem dX1_rounds_26 : decode cX1_rounds 26 = .ok (.iinc 3 1, 3) := by decide +kernel
theorem dX1_rounds_29 : decode cX1_rounds 29 = .ok (.goto (-22), 3) := by decide +kernel
theorem dX1_rounds_32 : decode cX1_rounds 32 = .ok (.goto 26, 3) := by decide +kernel
theorem dX1_rounds_35 : decode cX1_rounds 35 = .ok (.aload_n 0, 1) := by decide +kernel
theorem dX1_rounds_36 : decode cX1_rounds 36 = .ok (.getfield 7, 3) := by decide +kernel
theorem dX1_rounds_39 : decode cX1_rounds 39 = .ok (.iconst 1, 1) := by decide +kernel
theorem dX1_rounds_40 : decode cX1_rounds 40 = .ok (.isub, 1) := by decide +kernel
theorem dX1_rounds_41 : decode cX1_rounds 41 = .ok (.istore_n 3, 1) := by decide +kernel
theorem dX1_rounds_42 : decode cX1_rounds 42 = .ok (.iload_n 3, 1) := by decide +kernel
theorem dX1_rounds_43 : decode cX1_rounds 43 = .ok (.ifCond .lt 15, 3) := by decide +kernel
theorem dX1_rounds_46 : decode cX1_rounds 46 = .ok (.aload_n 0, 1) := by decide +kernel
theorem dX1_rounds_47 : decode cX1_rounds 47 = .ok (.iload_n 1, 1) := by decide +kernel
theorem dX1_rounds_48 : decode cX1_rounds 48 = .ok (.iload_n 3, 1) := by decide +kernel
theorem dX1_rounds_49 : decode cX1_rounds 49 = .ok (.invokevirtual 86, 3) := by decide +kernel
theorem dX1_rounds_52 : decode cX1_rounds 52 = .ok (.iinc 3 (-1), 3) := by decide +kernel
theorem dX1_rounds_55 : decode cX1_rounds 55 = .ok (.goto (-13), 3) := by decide +kernel
theorem dX1_rounds_58 : decode cX1_rounds 58 = .ok (.return_, 1) := by decide +kernel
set_option maxRecDepth 20000 in
theorem ggX1_isHeight_X1_in : GoodIn wsX1_isHeight wsX1_in := goodIn_r _ [4] (by decide +kernel) (by decide +kernel)
set_option maxRecDepth 20000 in
theorem gX1_isHeight_X1_in : GoodIn wsX1_isHeight (va_wsS RX1 36 yX1_in wsX1_in) := goodIn_app (goodIn_of _ (by decide +kernel)) ggX1_isHeight_X1_in
theorem dX1_isHeight_0 : decode cX1_isHeight 0 = .ok (.iload_n 0, 1) := by decide +kernel
theorem dX1_isHeight_1 : decode cX1_isHeight 1 = .ok (.iconst 1, 1) := by decide +kernel
theorem dX1_isHeight_2 : decode cX1_isHeight 2 = .ok (.iconst 3, 1) := by decide +kernel
theorem dX1_isHeight_3 : decode cX1_isHeight 3 = .ok (.invokestatic 36, 3) := by decide +kernel
theorem dX1_isHeight_6 : decode cX1_isHeight 6 = .ok (.ireturn, 1) := by decide +kernel
set_option maxRecDepth 20000 in
theorem ggX1_fillings_X1_isHeight : GoodIn wsX1_fillings wsX1_isHeight := goodIn_r _ [5, 6, 7, 4, 8] (by decide +kernel) (by decide +kernel)
set_option maxRecDepth 20000 in
theorem gX1_fillings_X1_isHeight : GoodIn wsX1_fillings (va_wsS RX1 90 yX1_isHeight wsX1_isHeight) := goodIn_app (goodIn_of _ (by decide +kernel)) ggX1_fillings_X1_isHeight
set_option maxRecDepth 20000 in
theorem ggX1_fillings_X1_take : GoodIn wsX1_fillings wsX1_take := goodIn_r _ [12, 1, 13, 14, 15, 16, 17, 18, 19, 20, 21, 22, 23] (by decide +kernel) (by decide +kernel)
set_option maxRecDepth 20000 in
theorem gX1_fillings_X1_take : GoodIn wsX1_fillings (wsV RX1 93 RX1 yX1_take wsX1_take) := goodIn_app (goodIn_of _ (by decide +kernel)) ggX1_fillings_X1_take
theorem dX1_fillings_0 : decode cX1_fillings 0 = .ok (.iload_n 1, 1) := by decide +kernel
theorem dX1_fillings_1 : decode cX1_fillings 1 = .ok (.invokestatic 90, 3) := by decide +kernel
theorem dX1_fillings_4 : decode cX1_fillings 4 = .ok (.ifCond .ne 5, 3) := by decide +kernel
theorem dX1_fillings_7 : decode cX1_fillings 7 = .ok (.iconst (-1), 1) := by decide +kernel
theorem dX1_fillings_8 : decode cX1_fillings 8 = .ok (.ireturn, 1) := by decide +kernel
theorem dX1_fillings_9 : decode cX1_fillings 9 = .ok (.iconst 1, 1) := by decide +kernel
theorem dX1_fillings_10 : decode cX1_fillings 10 = .ok (.istore_n 2, 1) := by decide +kernel
theorem dX1_fillings_11 : decode cX1_fillings 11 = .ok (.iconst 0, 1) := by decide +kernel
theorem dX1_fillings_12 : decode cX1_fillings 12 = .ok (.istore_n 3, 1) := by decide +kernel
theorem dX1_fillings_13 : decode cX1_fillings 13 = .ok (.iload_n 3, 1) := by decide +kernel
theorem dX1_fillings_14 : decode cX1_fillings 14 = .ok (.aload_n 0, 1) := by decide +kernel
theorem dX1_fillings_15 : decode cX1_fillings 15 = .ok (.getfield 7, 3) := by decide +kernel
theorem dX1_fillings_18 : decode cX1_fillings 18 = .ok (.if_icmp .ge 15, 3) := by decide +kernel
theorem dX1_fillings_21 : decode cX1_fillings 21 = .ok (.iload_n 2, 1) := by decide +kernel
theorem dX1_fillings_22 : decode cX1_fillings 22 = .ok (.iload_n 1, 1) := by decide +kernel
theorem dX1_fillings_23 : decode cX1_fillings 23 = .ok (.iconst 1, 1) := by decide +kernel
theorem dX1_fillings_24 : decode cX1_fillings 24 = .ok (.iadd, 1) := by decide +kernel
theorem dX1_fillings_25 : decode cX1_fillings 25 = .ok (.imul, 1) := by decide +kernel
theorem dX1_fillings_26 : decode cX1_fillings 26 = .ok (.istore_n 2, 1) := by decide +kernel
theorem dX1_fillings_27 : decode cX1_fillings 27 = .ok (.iinc 3 1, 3) := by decide +kernel
theorem dX1_fillings_30 : decode cX1_fillings 30 = .ok (.goto (-17), 3) := by decide +kernel
theorem dX1_fillings_33 : decode cX1_fillings 33 = .ok (.iconst 0, 1) := by decide +kernel
theorem dX1_fillings_34 : decode cX1_fillings 34 = .ok (.istore_n 3, 1) := by decide +kernel
theorem dX1_fillings_35 : decode cX1_fillings 35 = .ok (.iconst 0, 1) := by decide +kernel
theorem dX1_fillings_36 : decode cX1_fillings 36 = .ok (.istore 4, 2) := by decide +kernel
theorem dX1_fillings_38 : decode cX1_fillings 38 = .ok (.iload 4, 2) := by decide +kernel
theorem dX1_fillings_40 : decode cX1_fillings 40 = .ok (.iload_n 2, 1) := by decide +kernel
theorem dX1_fillings_41 : decode cX1_fillings 41 = .ok (.if_icmp .ge 27, 3) := by decide +kernel
theorem dX1_fillings_44 : decode cX1_fillings 44 = .ok (.iload_n 3, 1) := by decide +kernel
theorem dX1_fillings_45 : decode cX1_fillings 45 = .ok (.aload_n 0, 1) := by decide +kernel
theorem dX1_fillings_46 : decode cX1_fillings 46 = .ok (.iload_n 1, 1) := by decide +kernel
theorem dX1_fillings_47 : decode cX1_fillings 47 = .ok (.iload 4, 2) := by decide +kernel
theorem dX1_fillings_49 : decode cX1_fillings 49 = .ok (.invokevirtual 93, 3) := by decide +kernel
theorem dX1_fillings_52 : decode cX1_fillings 52 = .ok (.ifCond .eq 7, 3) := by decide +kernel
theorem dX1_fillings_55 : decode cX1_fillings 55 = .ok (.iconst 1, 1) := by decide +kernel
theorem dX1_fillings_56 : decode cX1_fillings 56 = .ok (.goto 4, 3) := by decide +kernel
theorem dX1_fillings_59 : decode cX1_fillings 59 = .ok (.iconst 0, 1) := by decide +kernel
theorem dX1_fillings_60 : decode cX1_fillings 60 = .ok (.iadd, 1) := by decide +kernel
theorem dX1_fillings_61 : decode cX1_fillings 61 = .ok (.istore_n 3, 1) := by decide +kernel
theorem dX1_fillings_62 : decode cX1_fillings 62 = .ok (.iinc 4 1, 3) := by decide +kernel
theorem dX1_fillings_65 : decode cX1_fillings 65 = .ok (.goto (-27), 3) := by decide +kernel
theorem dX1_fillings_68 : decode cX1_fillings 68 = .ok (.iload_n 3, 1) := by decide +kernel
theorem dX1_fillings_69 : decode cX1_fillings 69 = .ok (.ireturn, 1) := by decide +kernel
set_option maxRecDepth 20000 in
theorem ggX1_bend_X1_isHeight : GoodIn wsX1_bend wsX1_isHeight := goodIn_r _ [4, 5, 6, 3, 7] (by decide +kernel) (by decide +kernel)
set_option maxRecDepth 20000 in
theorem gX1_bend_X1_isHeight : GoodIn wsX1_bend (va_wsS RX1 90 yX1_isHeight wsX1_isHeight) := goodIn_app (goodIn_of _ (by decide +kernel)) ggX1_bend_X1_isHeight
set_option maxRecDepth 20000 in
theorem ggX1_bend_X1_isThing : GoodIn wsX1_bend wsX1_isThing := goodIn_r _ [11, 12, 5, 6, 3, 7, 27, 28, 29, 30, 31, 32, 33, 34, 35] (by decide +kernel) (by decide +kernel)
set_option maxRecDepth 20000 in
theorem gX1_bend_X1_isThing : GoodIn wsX1_bend (wsV RX1 40 RX1 yX1_isThing wsX1_isThing) := goodIn_app (goodIn_of _ (by decide +kernel)) ggX1_bend_X1_isThing
end
section
set_option maxRecDepth 20000 in
theorem ggX1_bend_X1_take : GoodIn wsX1_bend wsX1_take := goodIn_r _ [16, 12, 17, 18, 27, 28, 29, 30, 31, 32, 33, 34, 35] (by decide +kernel) (by decide +kernel)
set_option maxRecDepth 20000 in
theorem gX1_bend_X1_take : GoodIn wsX1_bend (wsV RX1 93 RX1 yX1_take wsX1_take) := goodIn_app (goodIn_of _ (by decide +kernel)) ggX1_bend_X1_take
set_option maxRecDepth 20000 in
theorem ggX1_bend_X1_bends : GoodIn wsX1_bend wsX1_bends := goodIn_r _ [22, 12, 18, 17, 27, 28, 29, 30, 31, 32, 33, 34, 35] (by decide +kernel) (by decide +kernel)
set_option maxRecDepth 20000 in
theorem gX1_bend_X1_bends : GoodIn wsX1_bend (wsV RX1 86 RX1 yX1_bends wsX1_bends) := goodIn_app (goodIn_of _ (by decide +kernel)) ggX1_bend_X1_bends
set_option maxRecDepth 20000 in
theorem ggX1_bend_X1_number : GoodIn wsX1_bend wsX1_number := goodIn_r _ [26, 12, 17, 27, 28, 29, 30, 31, 32, 33, 34, 35] (by decide +kernel) (by decide +kernel)
set_option maxRecDepth 20000 in
theorem gX1_bend_X1_number : GoodIn wsX1_bend (wsV RX1 96 RX1 yX1_number wsX1_number) := goodIn_app (goodIn_of _ (by decide +kernel)) ggX1_bend_X1_number
theorem dX1_bend_0 : decode cX1_bend 0 = .ok (.iload_n 1, 1) := by decide +kernel
theorem dX1_bend_1 : decode cX1_bend 1 = .ok (.invokestatic 90, 3) := by decide +kernel
theorem dX1_bend_4 : decode cX1_bend 4 = .ok (.ifCond .eq 20, 3) := by decide +kernel
theorem dX1_bend_7 : decode cX1_bend 7 = .ok (.aload_n 0, 1) := by decide +kernel
theorem dX1_bend_8 : decode cX1_bend 8 = .ok (.iload_n 3, 1) := by decide +kernel
theorem dX1_bend_9 : decode cX1_bend 9 = .ok (.invokevirtual 40, 3) := by decide +kernel
theorem dX1_bend_12 : decode cX1_bend 12 = .ok (.ifCond .eq 12, 3) := by decide +kernel
theorem dX1_bend_15 : decode cX1_bend 15 = .ok (.aload_n 0, 1) := by decide +kernel
theorem dX1_bend_16 : decode cX1_bend 16 = .ok (.iload_n 1, 1) := by decide +kernel
theorem dX1_bend_17 : decode cX1_bend 17 = .ok (.iload_n 2, 1) := by decide +kernel
theorem dX1_bend_18 : decode cX1_bend 18 = .ok (.invokevirtual 93, 3) := by decide +kernel
theorem dX1_bend_21 : decode cX1_bend 21 = .ok (.ifCond .ne 5, 3) := by decide +kernel
theorem dX1_bend_24 : decode cX1_bend 24 = .ok (.iconst (-1), 1) := by decide +kernel
theorem dX1_bend_25 : decode cX1_bend 25 = .ok (.ireturn, 1) := by decide +kernel
theorem dX1_bend_26 : decode cX1_bend 26 = .ok (.aload_n 0, 1) := by decide +kernel
theorem dX1_bend_27 : decode cX1_bend 27 = .ok (.iload_n 1, 1) := by decide +kernel
theorem dX1_bend_28 : decode cX1_bend 28 = .ok (.iload_n 3, 1) := by decide +kernel
theorem dX1_bend_29 : decode cX1_bend 29 = .ok (.invokevirtual 86, 3) := by decide +kernel
theorem dX1_bend_32 : decode cX1_bend 32 = .ok (.aload_n 0, 1) := by decide +kernel
theorem dX1_bend_33 : decode cX1_bend 33 = .ok (.iload_n 1, 1) := by decide +kernel
theorem dX1_bend_34 : decode cX1_bend 34 = .ok (.invokevirtual 96, 3) := by decide +kernel
theorem dX1_bend_37 : decode cX1_bend 37 = .ok (.ireturn, 1) := by decide +kernel
set_option maxRecDepth 20000 in
theorem ggX1_round_X1_isHeight : GoodIn wsX1_round wsX1_isHeight := goodIn_r _ [4, 5, 6, 3, 7] (by decide +kernel) (by decide +kernel)
set_option maxRecDepth 20000 in
theorem gX1_round_X1_isHeight : GoodIn wsX1_round (va_wsS RX1 90 yX1_isHeight wsX1_isHeight) := goodIn_app (goodIn_of _ (by decide +kernel)) ggX1_round_X1_isHeight
set_option maxRecDepth 20000 in
theorem ggX1_round_X1_isKind : GoodIn wsX1_round wsX1_isKind := goodIn_r _ [10, 5, 6, 3, 7] (by decide +kernel) (by decide +kernel)
set_option maxRecDepth 20000 in
theorem gX1_round_X1_isKind : GoodIn wsX1_round (va_wsS RX1 56 yX1_isKind wsX1_isKind) := goodIn_app (goodIn_of _ (by decide +kernel)) ggX1_round_X1_isKind
set_option maxRecDepth 20000 in
theorem ggX1_round_X1_take : GoodIn wsX1_round wsX1_take := goodIn_r _ [14, 15, 16, 17, 32, 33, 34, 35, 36, 37, 38, 39, 40] (by decide +kernel) (by decide +kernel)
set_option maxRecDepth 20000 in
theorem gX1_round_X1_take : GoodIn wsX1_round (wsV RX1 93 RX1 yX1_take wsX1_take) := goodIn_app (goodIn_of _ (by decide +kernel)) ggX1_round_X1_take
set_option maxRecDepth 20000 in
theorem ggX1_round_X1_rounds : GoodIn wsX1_round wsX1_rounds := goodIn_r _ [21, 22, 23, 15, 24, 25, 26, 3, 27, 17, 16, 32, 33, 34, 35, 36, 37, 38, 39, 40] (by decide +kernel) (by decide +kernel)
set_option maxRecDepth 20000 in
theorem gX1_round_X1_rounds : GoodIn wsX1_round (wsV RX1 100 RX1 yX1_rounds wsX1_rounds) := goodIn_app (goodIn_of _ (by decide +kernel)) ggX1_round_X1_rounds
set_option maxRecDepth 20000 in
theorem ggX1_round_X1_number : GoodIn wsX1_round wsX1_number := goodIn_r _ [31, 15, 16, 32, 33, 34, 35, 36, 37, 38, 39, 40] (by decide +kernel) (by decide +kernel)
set_option maxRecDepth 20000 in
theorem gX1_round_X1_number : GoodIn wsX1_round (wsV RX1 96 RX1 yX1_number wsX1_number) := goodIn_app (goodIn_of _ (by decide +kernel)) ggX1_round_X1_number
theorem dX1_round_0 : decode cX1_round 0 = .ok (.iload_n 1, 1) := by decide +kernel
theorem dX1_round_1 : decode cX1_round 1 = .ok (.invokestatic 90, 3) := by decide +kernel
theorem dX1_round_4 : decode cX1_round 4 = .ok (.ifCond .eq 19, 3) := by decide +kernel
theorem dX1_round_7 : decode cX1_round 7 = .ok (.iload_n 3, 1) := by decide +kernel
theorem dX1_round_8 : decode cX1_round 8 = .ok (.invokestatic 56, 3) := by decide +kernel
theorem dX1_round_11 : decode cX1_round 11 = .ok (.ifCond .eq 12, 3) := by decide +kernel
theorem dX1_round_14 : decode cX1_round 14 = .ok (.aload_n 0, 1) := by decide +kernel
theorem dX1_round_15 : decode cX1_round 15 = .ok (.iload_n 1, 1) := by decide +kernel
theorem dX1_round_16 : decode cX1_round 16 = .ok (.iload_n 2, 1) := by decide +kernel
theorem dX1_round_17 : decode cX1_round 17 = .ok (.invokevirtual 93, 3) := by decide +kernel
theorem dX1_round_20 : decode cX1_round 20 = .ok (.ifCond .ne 5, 3) := by decide +kernel
theorem dX1_round_23 : decode cX1_round 23 = .ok (.iconst (-1), 1) := by decide +kernel
theorem dX1_round_24 : decode cX1_round 24 = .ok (.ireturn, 1) := by decide +kernel
theorem dX1_round_25 : decode cX1_round 25 = .ok (.aload_n 0, 1) := by decide +kernel
theorem dX1_round_26 : decode cX1_round 26 = .ok (.iload_n 1, 1) := by decide +kernel
theorem dX1_round_27 : decode cX1_round 27 = .ok (.iload_n 3, 1) := by decide +kernel
theorem dX1_round_28 : decode cX1_round 28 = .ok (.invokevirtual 100, 3) := by decide +kernel
theorem dX1_round_31 : decode cX1_round 31 = .ok (.aload_n 0, 1) := by decide +kernel
theorem dX1_round_32 : decode cX1_round 32 = .ok (.iload_n 1, 1) := by decide +kernel
theorem dX1_round_33 : decode cX1_round 33 = .ok (.invokevirtual 96, 3) := by decide +kernel
theorem dX1_round_36 : decode cX1_round 36 = .ok (.ireturn, 1) := by decide +kernel
set_option maxRecDepth 20000 in
theorem ggX1_period_X1_isHeight : GoodIn wsX1_period wsX1_isHeight := goodIn_r _ [4, 5, 6, 3, 7] (by decide +kernel) (by decide +kernel)
set_option maxRecDepth 20000 in
theorem gX1_period_X1_isHeight : GoodIn wsX1_period (va_wsS RX1 90 yX1_isHeight wsX1_isHeight) := goodIn_app (goodIn_of _ (by decide +kernel)) ggX1_period_X1_isHeight
set_option maxRecDepth 20000 in
theorem ggX1_period_X1_isKind : GoodIn wsX1_period wsX1_isKind := goodIn_r _ [10, 5, 6, 3, 7] (by decide +kernel) (by decide +kernel)
set_option maxRecDepth 20000 in
theorem gX1_period_X1_isKind : GoodIn wsX1_period (va_wsS RX1 56 yX1_isKind wsX1_isKind) := goodIn_app (goodIn_of _ (by decide +kernel)) ggX1_period_X1_isKind
set_option maxRecDepth 20000 in
theorem ggX1_period_X1_take : GoodIn wsX1_period wsX1_take := goodIn_r _ [14, 15, 16, 17, 32, 33, 34, 35, 36, 37, 38, 39, 40] (by decide +kernel) (by decide +kernel)
set_option maxRecDepth 20000 in
theorem gX1_period_X1_take : GoodIn wsX1_period (wsV RX1 93 RX1 yX1_take wsX1_take) := goodIn_app (goodIn_of _ (by decide +kernel)) ggX1_period_X1_take
set_option maxRecDepth 20000 in
theorem ggX1_period_X1_rounds : GoodIn wsX1_period wsX1_rounds := goodIn_r _ [21, 22, 23, 15, 24, 25, 26, 3, 27, 17, 16, 32, 33, 34, 35, 36, 37, 38, 39, 40] (by decide +kernel) (by decide +kernel)
set_option maxRecDepth 20000 in
theorem gX1_period_X1_rounds : GoodIn wsX1_period (wsV RX1 100 RX1 yX1_rounds wsX1_rounds) := goodIn_app (goodIn_of _ (by decide +kernel)) ggX1_period_X1_rounds
set_option maxRecDepth 20000 in
theorem ggX1_period_X1_number : GoodIn wsX1_period wsX1_number := goodIn_r _ [31, 15, 16, 32, 33, 34, 35, 36, 37, 38, 39, 40] (by decide +kernel) (by decide +kernel)
set_option maxRecDepth 20000 in
theorem gX1_period_X1_number : GoodIn wsX1_period (wsV RX1 96 RX1 yX1_number wsX1_number) := goodIn_app (goodIn_of _ (by decide +kernel)) ggX1_period_X1_number
theorem dX1_period_0 : decode cX1_period 0 = .ok (.iload_n 1, 1) := by decide +kernel
theorem dX1_period_1 : decode cX1_period 1 = .ok (.invokestatic 90, 3) := by decide +kernel
theorem dX1_period_4 : decode cX1_period 4 = .ok (.ifCond .eq 19, 3) := by decide +kernel
theorem dX1_period_7 : decode cX1_period 7 = .ok (.iload_n 3, 1) := by decide +kernel
theorem dX1_period_8 : decode cX1_period 8 = .ok (.invokestatic 56, 3) := by decide +kernel
theorem dX1_period_11 : decode cX1_period 11 = .ok (.ifCond .eq 12, 3) := by decide +kernel
theorem dX1_period_14 : decode cX1_period 14 = .ok (.aload_n 0, 1) := by decide +kernel
theorem dX1_period_15 : decode cX1_period 15 = .ok (.iload_n 1, 1) := by decide +kernel
theorem dX1_period_16 : decode cX1_period 16 = .ok (.iload_n 2, 1) := by decide +kernel
theorem dX1_period_17 : decode cX1_period 17 = .ok (.invokevirtual 93, 3) := by decide +kernel
theorem dX1_period_20 : decode cX1_period 20 = .ok (.ifCond .ne 5, 3) := by decide +kernel
theorem dX1_period_23 : decode cX1_period 23 = .ok (.iconst (-1), 1) := by decide +kernel
theorem dX1_period_24 : decode cX1_period 24 = .ok (.ireturn, 1) := by decide +kernel
theorem dX1_period_25 : decode cX1_period 25 = .ok (.iconst 0, 1) := by decide +kernel
theorem dX1_period_26 : decode cX1_period 26 = .ok (.istore 4, 2) := by decide +kernel
theorem dX1_period_28 : decode cX1_period 28 = .ok (.iconst (-1), 1) := by decide +kernel
theorem dX1_period_29 : decode cX1_period 29 = .ok (.istore 5, 2) := by decide +kernel
theorem dX1_period_31 : decode cX1_period 31 = .ok (.iload 5, 2) := by decide +kernel
theorem dX1_period_33 : decode cX1_period 33 = .ok (.iload_n 2, 1) := by decide +kernel
theorem dX1_period_34 : decode cX1_period 34 = .ok (.if_icmp .eq 30, 3) := by decide +kernel
theorem dX1_period_37 : decode cX1_period 37 = .ok (.iload 4, 2) := by decide +kernel
theorem dX1_period_39 : decode cX1_period 39 = .ok (.sipush 1000, 3) := by decide +kernel
theorem dX1_period_42 : decode cX1_period 42 = .ok (.if_icmp .ge 22, 3) := by decide +kernel
theorem dX1_period_45 : decode cX1_period 45 = .ok (.aload_n 0, 1) := by decide +kernel
theorem dX1_period_46 : decode cX1_period 46 = .ok (.iload_n 1, 1) := by decide +kernel
theorem dX1_period_47 : decode cX1_period 47 = .ok (.iload_n 3, 1) := by decide +kernel
theorem dX1_period_48 : decode cX1_period 48 = .ok (.invokevirtual 100, 3) := by decide +kernel
theorem dX1_period_51 : decode cX1_period 51 = .ok (.aload_n 0, 1) := by decide +kernel
theorem dX1_period_52 : decode cX1_period 52 = .ok (.iload_n 1, 1) := by decide +kernel
theorem dX1_period_53 : decode cX1_period 53 = .ok (.invokevirtual 96, 3) := by decide +kernel
theorem dX1_period_56 : decode cX1_period 56 = .ok (.istore 5, 2) := by decide +kernel
theorem dX1_period_58 : decode cX1_period 58 = .ok (.iinc 4 1, 3) := by decide +kernel
theorem dX1_period_61 : decode cX1_period 61 = .ok (.goto (-30), 3) := by decide +kernel
theorem dX1_period_64 : decode cX1_period 64 = .ok (.iload 5, 2) := by decide +kernel
theorem dX1_period_66 : decode cX1_period 66 = .ok (.iload_n 2, 1) := by decide +kernel
theorem dX1_period_67 : decode cX1_period 67 = .ok (.if_icmp .ne 8, 3) := by decide +kernel
theorem dX1_period_70 : decode cX1_period 70 = .ok (.iload 4, 2) := by decide +kernel
theorem dX1_period_72 : decode cX1_period 72 = .ok (.goto 5, 3) := by decide +kernel
theorem dX1_period_75 : decode cX1_period 75 = .ok (.bipush (-9), 2) := by decide +kernel
theorem dX1_period_77 : decode cX1_period 77 = .ok (.ireturn, 1) := by decide +kernel
set_option maxRecDepth 20000 in
theorem ggX1_countOf_X1_has : GoodIn wsX1_countOf wsX1_has := goodIn_r _ [5] (by decide +kernel) (by decide +kernel)
set_option maxRecDepth 20000 in
theorem gX1_countOf_X1_has : GoodIn wsX1_countOf (va_wsS RX1 45 yX1_has wsX1_has) := goodIn_app (goodIn_of _ (by decide +kernel)) ggX1_countOf_X1_has
set_option maxRecDepth 20000 in
theorem ggX1_countOf_X1_isHeap : GoodIn wsX1_countOf wsX1_isHeap := goodIn_r _ [9, 1, 10, 11, 12, 4, 13, 2, 3, 5, 14, 15, 16, 17, 18, 19, 20, 21, 22] (by decide +kernel) (by decide +kernel)
set_option maxRecDepth 20000 in
theorem gX1_countOf_X1_isHeap : GoodIn wsX1_countOf (wsV RX1 49 RX1 yX1_isHeap wsX1_isHeap) := goodIn_app (goodIn_of _ (by decide +kernel)) ggX1_countOf_X1_isHeap
theorem dX1_countOf_0 : decode cX1_countOf 0 = .ok (.iconst 0, 1) := by decide +kernel
theorem dX1_countOf_1 : decode cX1_countOf 1 = .ok (.istore_n 2, 1) := by decide +kernel
theorem dX1_countOf_2 : decode cX1_countOf 2 = .ok (.iconst 0, 1) := by decide +kernel
theorem dX1_countOf_3 : decode cX1_countOf 3 = .ok (.istore_n 3, 1) := by decide +kernel
theorem dX1_countOf_4 : decode cX1_countOf 4 = .ok (.iload_n 3, 1) := by decide +kernel
theorem dX1_countOf_5 : decode cX1_countOf 5 = .ok (.iconst 1, 1) := by decide +kernel
theorem dX1_countOf_6 : decode cX1_countOf 6 = .ok (.aload_n 0, 1) := by decide +kernel
theorem dX1_countOf_7 : decode cX1_countOf 7 = .ok (.getfield 7, 3) := by decide +kernel
theorem dX1_countOf_10 : decode cX1_countOf 10 = .ok (.ishl, 1) := by decide +kernel
theorem dX1_countOf_11 : decode cX1_countOf 11 = .ok (.if_icmp .ge 71, 3) := by decide +kernel
theorem dX1_countOf_14 : decode cX1_countOf 14 = .ok (.iconst 0, 1) := by decide +kernel
theorem dX1_countOf_15 : decode cX1_countOf 15 = .ok (.istore 4, 2) := by decide +kernel
theorem dX1_countOf_17 : decode cX1_countOf 17 = .ok (.iconst 0, 1) := by decide +kernel
theorem dX1_countOf_18 : decode cX1_countOf 18 = .ok (.istore 5, 2) := by decide +kernel
theorem dX1_countOf_20 : decode cX1_countOf 20 = .ok (.iload 5, 2) := by decide +kernel
theorem dX1_countOf_22 : decode cX1_countOf 22 = .ok (.aload_n 0, 1) := by decide +kernel
theorem dX1_countOf_23 : decode cX1_countOf 23 = .ok (.getfield 7, 3) := by decide +kernel
theorem dX1_countOf_26 : decode cX1_countOf 26 = .ok (.if_icmp .ge 28, 3) := by decide +kernel
theorem dX1_countOf_29 : decode cX1_countOf 29 = .ok (.iload 4, 2) := by decide +kernel
theorem dX1_countOf_31 : decode cX1_countOf 31 = .ok (.iload_n 3, 1) := by decide +kernel
theorem dX1_countOf_32 : decode cX1_countOf 32 = .ok (.iload 5, 2) := by decide +kernel
theorem dX1_countOf_34 : decode cX1_countOf 34 = .ok (.invokestatic 45, 3) := by decide +kernel
theorem dX1_countOf_37 : decode cX1_countOf 37 = .ok (.ifCond .eq 7, 3) := by decide +kernel
theorem dX1_countOf_40 : decode cX1_countOf 40 = .ok (.iconst 1, 1) := by decide +kernel
theorem dX1_countOf_41 : decode cX1_countOf 41 = .ok (.goto 4, 3) := by decide +kernel
theorem dX1_countOf_44 : decode cX1_countOf 44 = .ok (.iconst 0, 1) := by decide +kernel
theorem dX1_countOf_45 : decode cX1_countOf 45 = .ok (.iadd, 1) := by decide +kernel
theorem dX1_countOf_46 : decode cX1_countOf 46 = .ok (.istore 4, 2) := by decide +kernel
theorem dX1_countOf_48 : decode cX1_countOf 48 = .ok (.iinc 5 1, 3) := by decide +kernel
theorem dX1_countOf_51 : decode cX1_countOf 51 = .ok (.goto (-31), 3) := by decide +kernel
theorem dX1_countOf_54 : decode cX1_countOf 54 = .ok (.iload_n 2, 1) := by decide +kernel
theorem dX1_countOf_55 : decode cX1_countOf 55 = .ok (.iload 4, 2) := by decide +kernel
theorem dX1_countOf_57 : decode cX1_countOf 57 = .ok (.iload_n 1, 1) := by decide +kernel
theorem dX1_countOf_58 : decode cX1_countOf 58 = .ok (.if_icmp .ne 15, 3) := by decide +kernel
theorem dX1_countOf_61 : decode cX1_countOf 61 = .ok (.aload_n 0, 1) := by decide +kernel
theorem dX1_countOf_62 : decode cX1_countOf 62 = .ok (.iload_n 3, 1) := by decide +kernel
theorem dX1_countOf_63 : decode cX1_countOf 63 = .ok (.invokevirtual 49, 3) := by decide +kernel
theorem dX1_countOf_66 : decode cX1_countOf 66 = .ok (.ifCond .eq 7, 3) := by decide +kernel
theorem dX1_countOf_69 : decode cX1_countOf 69 = .ok (.iconst 1, 1) := by decide +kernel
theorem dX1_countOf_70 : decode cX1_countOf 70 = .ok (.goto 4, 3) := by decide +kernel
theorem dX1_countOf_73 : decode cX1_countOf 73 = .ok (.iconst 0, 1) := by decide +kernel
theorem dX1_countOf_74 : decode cX1_countOf 74 = .ok (.iadd, 1) := by decide +kernel
theorem dX1_countOf_75 : decode cX1_countOf 75 = .ok (.istore_n 2, 1) := by decide +kernel
theorem dX1_countOf_76 : decode cX1_countOf 76 = .ok (.iinc 3 1, 3) := by decide +kernel
theorem dX1_countOf_79 : decode cX1_countOf 79 = .ok (.goto (-75), 3) := by decide +kernel
theorem dX1_countOf_82 : decode cX1_countOf 82 = .ok (.iload_n 2, 1) := by decide +kernel
theorem dX1_countOf_83 : decode cX1_countOf 83 = .ok (.ireturn, 1) := by decide +kernel
set_option maxRecDepth 20000 in
theorem ggX1_counts_X1_in : GoodIn wsX1_counts wsX1_in := goodIn_r _ [5] (by decide +kernel) (by decide +kernel)
set_option maxRecDepth 20000 in
theorem gX1_counts_X1_in : GoodIn wsX1_counts (va_wsS RX1 36 yX1_in wsX1_in) := goodIn_app (goodIn_of _ (by decide +kernel)) ggX1_counts_X1_in
set_option maxRecDepth 20000 in
theorem ggX1_counts_X1_countOf : GoodIn wsX1_counts wsX1_countOf := goodIn_r _ [9, 1, 10, 11, 4, 12, 13, 14, 15, 16, 17, 2, 3, 5, 18, 19, 20, 21, 22, 23, 24, 25, 26] (by decide +kernel) (by decide +kernel)
set_option maxRecDepth 20000 in
theorem gX1_counts_X1_countOf : GoodIn wsX1_counts (wsV RX1 103 RX1 yX1_countOf wsX1_countOf) := goodIn_app (goodIn_of _ (by decide +kernel)) ggX1_counts_X1_countOf
theorem dX1_counts_0 : decode cX1_counts 0 = .ok (.iload_n 1, 1) := by decide +kernel
theorem dX1_counts_1 : decode cX1_counts 1 = .ok (.iconst 0, 1) := by decide +kernel
theorem dX1_counts_2 : decode cX1_counts 2 = .ok (.aload_n 0, 1) := by decide +kernel
theorem dX1_counts_3 : decode cX1_counts 3 = .ok (.getfield 7, 3) := by decide +kernel
theorem dX1_counts_6 : decode cX1_counts 6 = .ok (.invokestatic 36, 3) := by decide +kernel
theorem dX1_counts_9 : decode cX1_counts 9 = .ok (.ifCond .eq 11, 3) := by decide +kernel
theorem dX1_counts_12 : decode cX1_counts 12 = .ok (.aload_n 0, 1) := by decide +kernel
theorem dX1_counts_13 : decode cX1_counts 13 = .ok (.iload_n 1, 1) := by decide +kernel
theorem dX1_counts_14 : decode cX1_counts 14 = .ok (.invokevirtual 103, 3) := by decide +kernel
theorem dX1_counts_17 : decode cX1_counts 17 = .ok (.goto 4, 3) := by decide +kernel
theorem dX1_counts_20 : decode cX1_counts 20 = .ok (.iconst (-1), 1) := by decide +kernel
theorem dX1_counts_21 : decode cX1_counts 21 = .ok (.ireturn, 1) := by decide +kernel
set_option maxRecDepth 20000 in
theorem ggX1_at_X1_in : GoodIn wsX1_at wsX1_in := goodIn_r _ [8] (by decide +kernel) (by decide +kernel)
set_option maxRecDepth 20000 in
theorem gX1_at_X1_in : GoodIn wsX1_at (va_wsS RX1 36 yX1_in wsX1_in) := goodIn_app (goodIn_of _ (by decide +kernel)) ggX1_at_X1_in
set_option maxRecDepth 20000 in
theorem ggX1_at_X1_countOf : GoodIn wsX1_at wsX1_countOf := goodIn_r _ [12, 3, 13, 14, 7, 15, 16, 17, 18, 19, 20, 5, 6, 8, 21, 22, 23, 24, 25, 26, 27, 28, 29] (by decide +kernel) (by decide +kernel)
set_option maxRecDepth 20000 in
theorem gX1_at_X1_countOf : GoodIn wsX1_at (wsV RX1 103 RX1 yX1_countOf wsX1_countOf) := goodIn_app (goodIn_of _ (by decide +kernel)) ggX1_at_X1_countOf
theorem dX1_at_0 : decode cX1_at 0 = .ok (.iload_n 1, 1) := by decide +kernel
theorem dX1_at_1 : decode cX1_at 1 = .ok (.iconst 1, 1) := by decide +kernel
theorem dX1_at_2 : decode cX1_at 2 = .ok (.bipush 6, 2) := by decide +kernel
theorem dX1_at_4 : decode cX1_at 4 = .ok (.invokestatic 36, 3) := by decide +kernel
theorem dX1_at_7 : decode cX1_at 7 = .ok (.ifCond .eq 8, 3) := by decide +kernel
theorem dX1_at_10 : decode cX1_at 10 = .ok (.iload_n 1, 1) := by decide +kernel
theorem dX1_at_11 : decode cX1_at 11 = .ok (.iconst 5, 1) := by decide +kernel
theorem dX1_at_12 : decode cX1_at 12 = .ok (.if_icmp .ne 6, 3) := by decide +kernel
theorem dX1_at_15 : decode cX1_at 15 = .ok (.ldc 106, 2) := by decide +kernel
theorem dX1_at_17 : decode cX1_at 17 = .ok (.ireturn, 1) := by decide +kernel
theorem dX1_at_18 : decode cX1_at 18 = .ok (.iconst 0, 1) := by decide +kernel
theorem dX1_at_19 : decode cX1_at 19 = .ok (.istore_n 2, 1) := by decide +kernel
theorem dX1_at_20 : decode cX1_at 20 = .ok (.iload_n 2, 1) := by decide +kernel
theorem dX1_at_21 : decode cX1_at 21 = .ok (.bipush 6, 2) := by decide +kernel
theorem dX1_at_23 : decode cX1_at 23 = .ok (.if_icmp .ge 16, 3) := by decide +kernel
theorem dX1_at_26 : decode cX1_at 26 = .ok (.aload_n 0, 1) := by decide +kernel
theorem dX1_at_27 : decode cX1_at 27 = .ok (.getfield 30, 3) := by decide +kernel
theorem dX1_at_30 : decode cX1_at 30 = .ok (.iload_n 2, 1) := by decide +kernel
theorem dX1_at_31 : decode cX1_at 31 = .ok (.iconst 0, 1) := by decide +kernel
theorem dX1_at_32 : decode cX1_at 32 = .ok (.iastore, 1) := by decide +kernel
theorem dX1_at_33 : decode cX1_at 33 = .ok (.iinc 2 1, 3) := by decide +kernel
theorem dX1_at_36 : decode cX1_at 36 = .ok (.goto (-16), 3) := by decide +kernel
theorem dX1_at_39 : decode cX1_at 39 = .ok (.iconst 0, 1) := by decide +kernel
theorem dX1_at_40 : decode cX1_at 40 = .ok (.istore_n 2, 1) := by decide +kernel
theorem dX1_at_41 : decode cX1_at 41 = .ok (.iload_n 2, 1) := by decide +kernel
theorem dX1_at_42 : decode cX1_at 42 = .ok (.aload_n 0, 1) := by decide +kernel
theorem dX1_at_43 : decode cX1_at 43 = .ok (.getfield 7, 3) := by decide +kernel
theorem dX1_at_46 : decode cX1_at 46 = .ok (.if_icmp .gt 25, 3) := by decide +kernel
theorem dX1_at_49 : decode cX1_at 49 = .ok (.aload_n 0, 1) := by decide +kernel
theorem dX1_at_50 : decode cX1_at 50 = .ok (.getfield 30, 3) := by decide +kernel
theorem dX1_at_53 : decode cX1_at 53 = .ok (.iload_n 2, 1) := by decide +kernel
theorem dX1_at_54 : decode cX1_at 54 = .ok (.iload_n 1, 1) := by decide +kernel
theorem dX1_at_55 : decode cX1_at 55 = .ok (.irem, 1) := by decide +kernel
theorem dX1_at_56 : decode cX1_at 56 = .ok (.dup2, 1) := by decide +kernel
theorem dX1_at_57 : decode cX1_at 57 = .ok (.iaload, 1) := by decide +kernel
theorem dX1_at_58 : decode cX1_at 58 = .ok (.aload_n 0, 1) := by decide +kernel
theorem dX1_at_59 : decode cX1_at 59 = .ok (.iload_n 2, 1) := by decide +kernel
theorem dX1_at_60 : decode cX1_at 60 = .ok (.invokevirtual 103, 3) := by decide +kernel
theorem dX1_at_63 : decode cX1_at 63 = .ok (.iadd, 1) := by decide +kernel
theorem dX1_at_64 : decode cX1_at 64 = .ok (.iastore, 1) := by decide +kernel
theorem dX1_at_65 : decode cX1_at 65 = .ok (.iinc 2 1, 3) := by decide +kernel
theorem dX1_at_68 : decode cX1_at 68 = .ok (.goto (-27), 3) := by decide +kernel
theorem dX1_at_71 : decode cX1_at 71 = .ok (.iload_n 1, 1) := by decide +kernel
theorem dX1_at_72 : decode cX1_at 72 = .ok (.tableswitch 121 1 4 #[32, 39, 53, 87], 32) := by decide +kernel
theorem dX1_at_104 : decode cX1_at 104 = .ok (.aload_n 0, 1) := by decide +kernel
theorem dX1_at_105 : decode cX1_at 105 = .ok (.getfield 30, 3) := by decide +kernel
theorem dX1_at_108 : decode cX1_at 108 = .ok (.iconst 0, 1) := by decide +kernel
theorem dX1_at_109 : decode cX1_at 109 = .ok (.iaload, 1) := by decide +kernel
theorem dX1_at_110 : decode cX1_at 110 = .ok (.ireturn, 1) := by decide +kernel
theorem dX1_at_111 : decode cX1_at 111 = .ok (.aload_n 0, 1) := by decide +kernel
theorem dX1_at_112 : decode cX1_at 112 = .ok (.getfield 30, 3) := by decide +kernel
theorem dX1_at_115 : decode cX1_at 115 = .ok (.iconst 0, 1) := by decide +kernel
theorem dX1_at_116 : decode cX1_at 116 = .ok (.iaload, 1) := by decide +kernel
theorem dX1_at_117 : decode cX1_at 117 = .ok (.aload_n 0, 1) := by decide +kernel
theorem dX1_at_118 : decode cX1_at 118 = .ok (.getfield 30, 3) := by decide +kernel
theorem dX1_at_121 : decode cX1_at 121 = .ok (.iconst 1, 1) := by decide +kernel
theorem dX1_at_122 : decode cX1_at 122 = .ok (.iaload, 1) := by decide +kernel
theorem dX1_at_123 : decode cX1_at 123 = .ok (.isub, 1) := by decide +kernel
theorem dX1_at_124 : decode cX1_at 124 = .ok (.ireturn, 1) := by decide +kernel
theorem dX1_at_125 : decode cX1_at 125 = .ok (.aload_n 0, 1) := by decide +kernel
theorem dX1_at_126 : decode cX1_at 126 = .ok (.getfield 30, 3) := by decide +kernel
theorem dX1_at_129 : decode cX1_at 129 = .ok (.iconst 1, 1) := by decide +kernel
theorem dX1_at_130 : decode cX1_at 130 = .ok (.iaload, 1) := by decide +kernel
theorem dX1_at_131 : decode cX1_at 131 = .ok (.aload_n 0, 1) := by decide +kernel
theorem dX1_at_132 : decode cX1_at 132 = .ok (.getfield 30, 3) := by decide +kernel
theorem dX1_at_135 : decode cX1_at 135 = .ok (.iconst 2, 1) := by decide +kernel
theorem dX1_at_136 : decode cX1_at 136 = .ok (.iaload, 1) := by decide +kernel
theorem dX1_at_137 : decode cX1_at 137 = .ok (.if_icmp .ne 19, 3) := by decide +kernel
theorem dX1_at_140 : decode cX1_at 140 = .ok (.aload_n 0, 1) := by decide +kernel
theorem dX1_at_141 : decode cX1_at 141 = .ok (.getfield 30, 3) := by decide +kernel
theorem dX1_at_144 : decode cX1_at 144 = .ok (.iconst 0, 1) := by decide +kernel
theorem dX1_at_145 : decode cX1_at 145 = .ok (.iaload, 1) := by decide +kernel
theorem dX1_at_146 : decode cX1_at 146 = .ok (.aload_n 0, 1) := by decide +kernel
theorem dX1_at_147 : decode cX1_at 147 = .ok (.getfield 30, 3) := by decide +kernel
theorem dX1_at_150 : decode cX1_at 150 = .ok (.iconst 2, 1) := by decide +kernel
theorem dX1_at_151 : decode cX1_at 151 = .ok (.iaload, 1) := by decide +kernel
theorem dX1_at_152 : decode cX1_at 152 = .ok (.isub, 1) := by decide +kernel
theorem dX1_at_153 : decode cX1_at 153 = .ok (.goto 5, 3) := by decide +kernel
theorem dX1_at_156 : decode cX1_at 156 = .ok (.ldc 44, 2) := by decide +kernel
theorem dX1_at_158 : decode cX1_at 158 = .ok (.ireturn, 1) := by decide +kernel
theorem dX1_at_159 : decode cX1_at 159 = .ok (.aload_n 0, 1) := by decide +kernel
theorem dX1_at_160 : decode cX1_at 160 = .ok (.getfield 30, 3) := by decide +kernel
theorem dX1_at_163 : decode cX1_at 163 = .ok (.iconst 1, 1) := by decide +kernel
theorem dX1_at_164 : decode cX1_at 164 = .ok (.iaload, 1) := by decide +kernel
theorem dX1_at_165 : decode cX1_at 165 = .ok (.aload_n 0, 1) := by decide +kernel
theorem dX1_at_166 : decode cX1_at 166 = .ok (.getfield 30, 3) := by decide +kernel
theorem dX1_at_169 : decode cX1_at 169 = .ok (.iconst 3, 1) := by decide +kernel
theorem dX1_at_170 : decode cX1_at 170 = .ok (.iaload, 1) := by decide +kernel
theorem dX1_at_171 : decode cX1_at 171 = .ok (.if_icmp .ne 19, 3) := by decide +kernel
theorem dX1_at_174 : decode cX1_at 174 = .ok (.aload_n 0, 1) := by decide +kernel
theorem dX1_at_175 : decode cX1_at 175 = .ok (.getfield 30, 3) := by decide +kernel
theorem dX1_at_178 : decode cX1_at 178 = .ok (.iconst 0, 1) := by decide +kernel
theorem dX1_at_179 : decode cX1_at 179 = .ok (.iaload, 1) := by decide +kernel
theorem dX1_at_180 : decode cX1_at 180 = .ok (.aload_n 0, 1) := by decide +kernel
theorem dX1_at_181 : decode cX1_at 181 = .ok (.getfield 30, 3) := by decide +kernel
theorem dX1_at_184 : decode cX1_at 184 = .ok (.iconst 2, 1) := by decide +kernel
theorem dX1_at_185 : decode cX1_at 185 = .ok (.iaload, 1) := by decide +kernel
theorem dX1_at_186 : decode cX1_at 186 = .ok (.isub, 1) := by decide +kernel
theorem dX1_at_187 : decode cX1_at 187 = .ok (.goto 5, 3) := by decide +kernel
theorem dX1_at_190 : decode cX1_at 190 = .ok (.ldc 44, 2) := by decide +kernel
theorem dX1_at_192 : decode cX1_at 192 = .ok (.ireturn, 1) := by decide +kernel
theorem dX1_at_193 : decode cX1_at 193 = .ok (.aload_n 0, 1) := by decide +kernel
theorem dX1_at_194 : decode cX1_at 194 = .ok (.getfield 30, 3) := by decide +kernel
theorem dX1_at_197 : decode cX1_at 197 = .ok (.iconst 1, 1) := by decide +kernel
theorem dX1_at_198 : decode cX1_at 198 = .ok (.iaload, 1) := by decide +kernel
theorem dX1_at_199 : decode cX1_at 199 = .ok (.aload_n 0, 1) := by decide +kernel
theorem dX1_at_200 : decode cX1_at 200 = .ok (.getfield 30, 3) := by decide +kernel
theorem dX1_at_203 : decode cX1_at 203 = .ok (.iconst 4, 1) := by decide +kernel
theorem dX1_at_204 : decode cX1_at 204 = .ok (.iaload, 1) := by decide +kernel
theorem dX1_at_205 : decode cX1_at 205 = .ok (.isub, 1) := by decide +kernel
theorem dX1_at_206 : decode cX1_at 206 = .ok (.aload_n 0, 1) := by decide +kernel
theorem dX1_at_207 : decode cX1_at 207 = .ok (.getfield 30, 3) := by decide +kernel
theorem dX1_at_210 : decode cX1_at 210 = .ok (.iconst 2, 1) := by decide +kernel
theorem dX1_at_211 : decode cX1_at 211 = .ok (.iaload, 1) := by decide +kernel
theorem dX1_at_212 : decode cX1_at 212 = .ok (.iadd, 1) := by decide +kernel
theorem dX1_at_213 : decode cX1_at 213 = .ok (.aload_n 0, 1) := by decide +kernel
theorem dX1_at_214 : decode cX1_at 214 = .ok (.getfield 30, 3) := by decide +kernel
theorem dX1_at_217 : decode cX1_at 217 = .ok (.iconst 5, 1) := by decide +kernel
theorem dX1_at_218 : decode cX1_at 218 = .ok (.iaload, 1) := by decide +kernel
theorem dX1_at_219 : decode cX1_at 219 = .ok (.isub, 1) := by decide +kernel
theorem dX1_at_220 : decode cX1_at 220 = .ok (.ifCond .ne 33, 3) := by decide +kernel
theorem dX1_at_223 : decode cX1_at 223 = .ok (.aload_n 0, 1) := by decide +kernel
theorem dX1_at_224 : decode cX1_at 224 = .ok (.getfield 30, 3) := by decide +kernel
theorem dX1_at_227 : decode cX1_at 227 = .ok (.iconst 0, 1) := by decide +kernel
theorem dX1_at_228 : decode cX1_at 228 = .ok (.iaload, 1) := by decide +kernel
theorem dX1_at_229 : decode cX1_at 229 = .ok (.aload_n 0, 1) := by decide +kernel
theorem dX1_at_230 : decode cX1_at 230 = .ok (.getfield 30, 3) := by decide +kernel
theorem dX1_at_233 : decode cX1_at 233 = .ok (.iconst 3, 1) := by decide +kernel
theorem dX1_at_234 : decode cX1_at 234 = .ok (.iaload, 1) := by decide +kernel
theorem dX1_at_235 : decode cX1_at 235 = .ok (.isub, 1) := by decide +kernel
theorem dX1_at_236 : decode cX1_at 236 = .ok (.aload_n 0, 1) := by decide +kernel
theorem dX1_at_237 : decode cX1_at 237 = .ok (.getfield 30, 3) := by decide +kernel
theorem dX1_at_240 : decode cX1_at 240 = .ok (.iconst 2, 1) := by decide +kernel
theorem dX1_at_241 : decode cX1_at 241 = .ok (.iaload, 1) := by decide +kernel
theorem dX1_at_242 : decode cX1_at 242 = .ok (.isub, 1) := by decide +kernel
theorem dX1_at_243 : decode cX1_at 243 = .ok (.aload_n 0, 1) := by decide +kernel
theorem dX1_at_244 : decode cX1_at 244 = .ok (.getfield 30, 3) := by decide +kernel
theorem dX1_at_247 : decode cX1_at 247 = .ok (.iconst 5, 1) := by decide +kernel
theorem dX1_at_248 : decode cX1_at 248 = .ok (.iaload, 1) := by decide +kernel
theorem dX1_at_249 : decode cX1_at 249 = .ok (.iadd, 1) := by decide +kernel
theorem dX1_at_250 : decode cX1_at 250 = .ok (.goto 5, 3) := by decide +kernel
theorem dX1_at_253 : decode cX1_at 253 = .ok (.ldc 44, 2) := by decide +kernel
theorem dX1_at_255 : decode cX1_at 255 = .ok (.ireturn, 1) := by decide +kernel
set_option maxRecDepth 20000 in
theorem ggX1_stays_X1_isKind : GoodIn wsX1_stays wsX1_isKind := goodIn_r _ [5, 6, 7, 4, 8] (by decide +kernel) (by decide +kernel)
set_option maxRecDepth 20000 in
theorem gX1_stays_X1_isKind : GoodIn wsX1_stays (va_wsS RX1 56 yX1_isKind wsX1_isKind) := goodIn_app (goodIn_of _ (by decide +kernel)) ggX1_stays_X1_isKind
set_option maxRecDepth 20000 in
theorem ggX1_stays_X1_in : GoodIn wsX1_stays wsX1_in := goodIn_r _ [8] (by decide +kernel) (by decide +kernel)
set_option maxRecDepth 20000 in
theorem gX1_stays_X1_in : GoodIn wsX1_stays (va_wsS RX1 36 yX1_in wsX1_in) := goodIn_app (goodIn_of _ (by decide +kernel)) ggX1_stays_X1_in
set_option maxRecDepth 20000 in
theorem ggX1_stays_X1_isHeap : GoodIn wsX1_stays wsX1_isHeap := goodIn_r _ [12, 1, 13, 6, 7, 4, 8, 14, 15, 16, 31, 32, 33, 34, 35, 36, 37, 38, 39] (by decide +kernel) (by decide +kernel)
set_option maxRecDepth 20000 in
theorem gX1_stays_X1_isHeap : GoodIn wsX1_stays (wsV RX1 49 RX1 yX1_isHeap wsX1_isHeap) := goodIn_app (goodIn_of _ (by decide +kernel)) ggX1_stays_X1_isHeap
set_option maxRecDepth 20000 in
theorem ggX1_stays_X1_orbitOf : GoodIn wsX1_stays wsX1_orbitOf := goodIn_r _ [20, 21, 22, 23, 4, 24, 25, 26, 1, 13, 27, 28, 29, 30, 9, 10, 11, 12, 6, 7, 8, 14, 15, 16, 31, 32, 33, 34, 35, 36, 37, 38, 39] (by decide +kernel) (by decide +kernel)
set_option maxRecDepth 20000 in
theorem gX1_stays_X1_orbitOf : GoodIn wsX1_stays (wsV RX1 62 RX1 yX1_orbitOf wsX1_orbitOf) := goodIn_app (goodIn_of _ (by decide +kernel)) ggX1_stays_X1_orbitOf
theorem dX1_stays_0 : decode cX1_stays 0 = .ok (.iload_n 1, 1) := by decide +kernel
theorem dX1_stays_1 : decode cX1_stays 1 = .ok (.invokestatic 56, 3) := by decide +kernel
theorem dX1_stays_4 : decode cX1_stays 4 = .ok (.ifCond .eq 14, 3) := by decide +kernel
theorem dX1_stays_7 : decode cX1_stays 7 = .ok (.iload_n 2, 1) := by decide +kernel
theorem dX1_stays_8 : decode cX1_stays 8 = .ok (.iconst 0, 1) := by decide +kernel
theorem dX1_stays_9 : decode cX1_stays 9 = .ok (.sipush 1000, 3) := by decide +kernel
theorem dX1_stays_12 : decode cX1_stays 12 = .ok (.invokestatic 36, 3) := by decide +kernel
theorem dX1_stays_15 : decode cX1_stays 15 = .ok (.ifCond .ne 5, 3) := by decide +kernel
theorem dX1_stays_18 : decode cX1_stays 18 = .ok (.iconst (-1), 1) := by decide +kernel
theorem dX1_stays_19 : decode cX1_stays 19 = .ok (.ireturn, 1) := by decide +kernel
theorem dX1_stays_20 : decode cX1_stays 20 = .ok (.iconst 0, 1) := by decide +kernel
theorem dX1_stays_21 : decode cX1_stays 21 = .ok (.istore_n 3, 1) := by decide +kernel
theorem dX1_stays_22 : decode cX1_stays 22 = .ok (.iconst 0, 1) := by decide +kernel
theorem dX1_stays_23 : decode cX1_stays 23 = .ok (.istore 4, 2) := by decide +kernel
theorem dX1_stays_25 : decode cX1_stays 25 = .ok (.iload 4, 2) := by decide +kernel
theorem dX1_stays_27 : decode cX1_stays 27 = .ok (.iconst 1, 1) := by decide +kernel
theorem dX1_stays_28 : decode cX1_stays 28 = .ok (.aload_n 0, 1) := by decide +kernel
theorem dX1_stays_29 : decode cX1_stays 29 = .ok (.getfield 7, 3) := by decide +kernel
theorem dX1_stays_32 : decode cX1_stays 32 = .ok (.ishl, 1) := by decide +kernel
theorem dX1_stays_33 : decode cX1_stays 33 = .ok (.if_icmp .ge 38, 3) := by decide +kernel
theorem dX1_stays_36 : decode cX1_stays 36 = .ok (.iload_n 3, 1) := by decide +kernel
theorem dX1_stays_37 : decode cX1_stays 37 = .ok (.aload_n 0, 1) := by decide +kernel
theorem dX1_stays_38 : decode cX1_stays 38 = .ok (.iload 4, 2) := by decide +kernel
theorem dX1_stays_40 : decode cX1_stays 40 = .ok (.invokevirtual 49, 3) := by decide +kernel
theorem dX1_stays_43 : decode cX1_stays 43 = .ok (.ifCond .eq 19, 3) := by decide +kernel
theorem dX1_stays_46 : decode cX1_stays 46 = .ok (.iload_n 2, 1) := by decide +kernel
theorem dX1_stays_47 : decode cX1_stays 47 = .ok (.aload_n 0, 1) := by decide +kernel
theorem dX1_stays_48 : decode cX1_stays 48 = .ok (.iload 4, 2) := by decide +kernel
theorem dX1_stays_50 : decode cX1_stays 50 = .ok (.iload_n 1, 1) := by decide +kernel
theorem dX1_stays_51 : decode cX1_stays 51 = .ok (.invokevirtual 62, 3) := by decide +kernel
theorem dX1_stays_54 : decode cX1_stays 54 = .ok (.irem, 1) := by decide +kernel
theorem dX1_stays_55 : decode cX1_stays 55 = .ok (.ifCond .ne 7, 3) := by decide +kernel
theorem dX1_stays_58 : decode cX1_stays 58 = .ok (.iconst 1, 1) := by decide +kernel
theorem dX1_stays_59 : decode cX1_stays 59 = .ok (.goto 4, 3) := by decide +kernel
theorem dX1_stays_62 : decode cX1_stays 62 = .ok (.iconst 0, 1) := by decide +kernel
theorem dX1_stays_63 : decode cX1_stays 63 = .ok (.iadd, 1) := by decide +kernel
theorem dX1_stays_64 : decode cX1_stays 64 = .ok (.istore_n 3, 1) := by decide +kernel
theorem dX1_stays_65 : decode cX1_stays 65 = .ok (.iinc 4 1, 3) := by decide +kernel
theorem dX1_stays_68 : decode cX1_stays 68 = .ok (.goto (-43), 3) := by decide +kernel
theorem dX1_stays_71 : decode cX1_stays 71 = .ok (.iload_n 3, 1) := by decide +kernel
theorem dX1_stays_72 : decode cX1_stays 72 = .ok (.ireturn, 1) := by decide +kernel
theorem dX1_count_0 : decode cX1_count 0 = .ok (.iconst 0, 1) := by decide +kernel
theorem dX1_count_1 : decode cX1_count 1 = .ok (.istore_n 2, 1) := by decide +kernel
theorem dX1_count_2 : decode cX1_count 2 = .ok (.iload_n 1, 1) := by decide +kernel
theorem dX1_count_3 : decode cX1_count 3 = .ok (.tableswitch 68 0 2 #[25, 30, 35], 25) := by decide +kernel
theorem dX1_count_28 : decode cX1_count 28 = .ok (.aload_n 0, 1) := by decide +kernel
theorem dX1_count_29 : decode cX1_count 29 = .ok (.getfield 7, 3) := by decide +kernel
theorem dX1_count_32 : decode cX1_count 32 = .ok (.ireturn, 1) := by decide +kernel
theorem dX1_count_33 : decode cX1_count 33 = .ok (.aload_n 0, 1) := by decide +kernel
theorem dX1_count_34 : decode cX1_count 34 = .ok (.getfield 33, 3) := by decide +kernel
theorem dX1_count_37 : decode cX1_count 37 = .ok (.ireturn, 1) := by decide +kernel
theorem dX1_count_38 : decode cX1_count 38 = .ok (.iconst 0, 1) := by decide +kernel
theorem dX1_count_39 : decode cX1_count 39 = .ok (.istore_n 3, 1) := by decide +kernel
theorem dX1_count_40 : decode cX1_count 40 = .ok (.iload_n 3, 1) := by decide +kernel
theorem dX1_count_41 : decode cX1_count 41 = .ok (.bipush 64, 2) := by decide +kernel
theorem dX1_count_43 : decode cX1_count 43 = .ok (.if_icmp .ge 26, 3) := by decide +kernel
theorem dX1_count_46 : decode cX1_count 46 = .ok (.iload_n 2, 1) := by decide +kernel
theorem dX1_count_47 : decode cX1_count 47 = .ok (.aload_n 0, 1) := by decide +kernel
theorem dX1_count_48 : decode cX1_count 48 = .ok (.getfield 13, 3) := by decide +kernel
theorem dX1_count_51 : decode cX1_count 51 = .ok (.iload_n 3, 1) := by decide +kernel
theorem dX1_count_52 : decode cX1_count 52 = .ok (.baload, 1) := by decide +kernel
theorem dX1_count_53 : decode cX1_count 53 = .ok (.ifCond .eq 7, 3) := by decide +kernel
theorem dX1_count_56 : decode cX1_count 56 = .ok (.iconst 1, 1) := by decide +kernel
theorem dX1_count_57 : decode cX1_count 57 = .ok (.goto 4, 3) := by decide +kernel
theorem dX1_count_60 : decode cX1_count 60 = .ok (.iconst 0, 1) := by decide +kernel
theorem dX1_count_61 : decode cX1_count 61 = .ok (.iadd, 1) := by decide +kernel
theorem dX1_count_62 : decode cX1_count 62 = .ok (.istore_n 2, 1) := by decide +kernel
theorem dX1_count_63 : decode cX1_count 63 = .ok (.iinc 3 1, 3) := by decide +kernel
theorem dX1_count_66 : decode cX1_count 66 = .ok (.goto (-26), 3) := by decide +kernel
theorem dX1_count_69 : decode cX1_count 69 = .ok (.iload_n 2, 1) := by decide +kernel
theorem dX1_count_70 : decode cX1_count 70 = .ok (.ireturn, 1) := by decide +kernel
theorem dX1_count_71 : decode cX1_count 71 = .ok (.iconst (-1), 1) := by decide +kernel
theorem dX1_count_72 : decode cX1_count 72 = .ok (.ireturn, 1) := by decide +kernel
theorem dX1_trace_0 : decode cX1_trace 0 = .ok (.aload_n 0, 1) := by decide +kernel
theorem dX1_trace_1 : decode cX1_trace 1 = .ok (.getfield 71, 3) := by decide +kernel
theorem dX1_trace_4 : decode cX1_trace 4 = .ok (.lreturn, 1) := by decide +kernel
theorem dJ6_bitCount_0f7a4_0 : decode cJ6_bitCount_0f7a4 0 = .ok (.iload_n 0, 1) := by decide +kernel
theorem dJ6_bitCount_0f7a4_1 : decode cJ6_bitCount_0f7a4 1 = .ok (.iload_n 0, 1) := by decide +kernel
theorem dJ6_bitCount_0f7a4_2 : decode cJ6_bitCount_0f7a4 2 = .ok (.iconst 1, 1) := by decide +kernel
theorem dJ6_bitCount_0f7a4_3 : decode cJ6_bitCount_0f7a4 3 = .ok (.iushr, 1) := by decide +kernel
theorem dJ6_bitCount_0f7a4_4 : decode cJ6_bitCount_0f7a4 4 = .ok (.ldc_w 265, 3) := by decide +kernel
theorem dJ6_bitCount_0f7a4_7 : decode cJ6_bitCount_0f7a4 7 = .ok (.iand, 1) := by decide +kernel
theorem dJ6_bitCount_0f7a4_8 : decode cJ6_bitCount_0f7a4 8 = .ok (.isub, 1) := by decide +kernel
theorem dJ6_bitCount_0f7a4_9 : decode cJ6_bitCount_0f7a4 9 = .ok (.istore_n 0, 1) := by decide +kernel
theorem dJ6_bitCount_0f7a4_10 : decode cJ6_bitCount_0f7a4 10 = .ok (.iload_n 0, 1) := by decide +kernel
theorem dJ6_bitCount_0f7a4_11 : decode cJ6_bitCount_0f7a4 11 = .ok (.ldc_w 266, 3) := by decide +kernel
theorem dJ6_bitCount_0f7a4_14 : decode cJ6_bitCount_0f7a4 14 = .ok (.iand, 1) := by decide +kernel
theorem dJ6_bitCount_0f7a4_15 : decode cJ6_bitCount_0f7a4 15 = .ok (.iload_n 0, 1) := by decide +kernel
theorem dJ6_bitCount_0f7a4_16 : decode cJ6_bitCount_0f7a4 16 = .ok (.iconst 2, 1) := by decide +kernel
theorem dJ6_bitCount_0f7a4_17 : decode cJ6_bitCount_0f7a4 17 = .ok (.iushr, 1) := by decide +kernel
theorem dJ6_bitCount_0f7a4_18 : decode cJ6_bitCount_0f7a4 18 = .ok (.ldc_w 266, 3) := by decide +kernel
theorem dJ6_bitCount_0f7a4_21 : decode cJ6_bitCount_0f7a4 21 = .ok (.iand, 1) := by decide +kernel
theorem dJ6_bitCount_0f7a4_22 : decode cJ6_bitCount_0f7a4 22 = .ok (.iadd, 1) := by decide +kernel
theorem dJ6_bitCount_0f7a4_23 : decode cJ6_bitCount_0f7a4 23 = .ok (.istore_n 0, 1) := by decide +kernel
theorem dJ6_bitCount_0f7a4_24 : decode cJ6_bitCount_0f7a4 24 = .ok (.iload_n 0, 1) := by decide +kernel
theorem dJ6_bitCount_0f7a4_25 : decode cJ6_bitCount_0f7a4 25 = .ok (.iload_n 0, 1) := by decide +kernel
theorem dJ6_bitCount_0f7a4_26 : decode cJ6_bitCount_0f7a4 26 = .ok (.iconst 4, 1) := by decide +kernel
theorem dJ6_bitCount_0f7a4_27 : decode cJ6_bitCount_0f7a4 27 = .ok (.iushr, 1) := by decide +kernel
theorem dJ6_bitCount_0f7a4_28 : decode cJ6_bitCount_0f7a4 28 = .ok (.iadd, 1) := by decide +kernel
theorem dJ6_bitCount_0f7a4_29 : decode cJ6_bitCount_0f7a4 29 = .ok (.ldc_w 267, 3) := by decide +kernel
theorem dJ6_bitCount_0f7a4_32 : decode cJ6_bitCount_0f7a4 32 = .ok (.iand, 1) := by decide +kernel
theorem dJ6_bitCount_0f7a4_33 : decode cJ6_bitCount_0f7a4 33 = .ok (.istore_n 0, 1) := by decide +kernel
theorem dJ6_bitCount_0f7a4_34 : decode cJ6_bitCount_0f7a4 34 = .ok (.iload_n 0, 1) := by decide +kernel
theorem dJ6_bitCount_0f7a4_35 : decode cJ6_bitCount_0f7a4 35 = .ok (.iload_n 0, 1) := by decide +kernel
theorem dJ6_bitCount_0f7a4_36 : decode cJ6_bitCount_0f7a4 36 = .ok (.bipush 8, 2) := by decide +kernel
theorem dJ6_bitCount_0f7a4_38 : decode cJ6_bitCount_0f7a4 38 = .ok (.iushr, 1) := by decide +kernel
theorem dJ6_bitCount_0f7a4_39 : decode cJ6_bitCount_0f7a4 39 = .ok (.iadd, 1) := by decide +kernel
theorem dJ6_bitCount_0f7a4_40 : decode cJ6_bitCount_0f7a4 40 = .ok (.istore_n 0, 1) := by decide +kernel
theorem dJ6_bitCount_0f7a4_41 : decode cJ6_bitCount_0f7a4 41 = .ok (.iload_n 0, 1) := by decide +kernel
theorem dJ6_bitCount_0f7a4_42 : decode cJ6_bitCount_0f7a4 42 = .ok (.iload_n 0, 1) := by decide +kernel
theorem dJ6_bitCount_0f7a4_43 : decode cJ6_bitCount_0f7a4 43 = .ok (.bipush 16, 2) := by decide +kernel
theorem dJ6_bitCount_0f7a4_45 : decode cJ6_bitCount_0f7a4 45 = .ok (.iushr, 1) := by decide +kernel
theorem dJ6_bitCount_0f7a4_46 : decode cJ6_bitCount_0f7a4 46 = .ok (.iadd, 1) := by decide +kernel
theorem dJ6_bitCount_0f7a4_47 : decode cJ6_bitCount_0f7a4 47 = .ok (.istore_n 0, 1) := by decide +kernel
theorem dJ6_bitCount_0f7a4_48 : decode cJ6_bitCount_0f7a4 48 = .ok (.iload_n 0, 1) := by decide +kernel
theorem dJ6_bitCount_0f7a4_49 : decode cJ6_bitCount_0f7a4 49 = .ok (.bipush 63, 2) := by decide +kernel
theorem dJ6_bitCount_0f7a4_51 : decode cJ6_bitCount_0f7a4 51 = .ok (.iand, 1) := by decide +kernel
theorem dJ6_bitCount_0f7a4_52 : decode cJ6_bitCount_0f7a4 52 = .ok (.ireturn, 1) := by decide +kernel
theorem dJ9_abs_0f7a4_0 : decode cJ9_abs_0f7a4 0 = .ok (.iload_n 0, 1) := by decide +kernel
theorem dJ9_abs_0f7a4_1 : decode cJ9_abs_0f7a4 1 = .ok (.ifCond .ge 8, 3) := by decide +kernel
theorem dJ9_abs_0f7a4_4 : decode cJ9_abs_0f7a4 4 = .ok (.iload_n 0, 1) := by decide +kernel
theorem dJ9_abs_0f7a4_5 : decode cJ9_abs_0f7a4 5 = .ok (.ineg, 1) := by decide +kernel
theorem dJ9_abs_0f7a4_6 : decode cJ9_abs_0f7a4 6 = .ok (.goto 4, 3) := by decide +kernel
theorem dJ9_abs_0f7a4_9 : decode cJ9_abs_0f7a4 9 = .ok (.iload_n 0, 1) := by decide +kernel
theorem dJ9_abs_0f7a4_10 : decode cJ9_abs_0f7a4 10 = .ok (.ireturn, 1) := by decide +kernel
theorem dJ9_max_7cf53_0 : decode cJ9_max_7cf53 0 = .ok (.iload_n 0, 1) := by decide +kernel
theorem dJ9_max_7cf53_1 : decode cJ9_max_7cf53 1 = .ok (.iload_n 1, 1) := by decide +kernel
theorem dJ9_max_7cf53_2 : decode cJ9_max_7cf53 2 = .ok (.if_icmp .lt 7, 3) := by decide +kernel
theorem dJ9_max_7cf53_5 : decode cJ9_max_7cf53 5 = .ok (.iload_n 0, 1) := by decide +kernel
theorem dJ9_max_7cf53_6 : decode cJ9_max_7cf53 6 = .ok (.goto 4, 3) := by decide +kernel
theorem dJ9_max_7cf53_9 : decode cJ9_max_7cf53 9 = .ok (.iload_n 1, 1) := by decide +kernel
theorem dJ9_max_7cf53_10 : decode cJ9_max_7cf53 10 = .ok (.ireturn, 1) := by decide +kernel
theorem dJ9_min_7cf53_0 : decode cJ9_min_7cf53 0 = .ok (.iload_n 0, 1) := by decide +kernel
theorem dJ9_min_7cf53_1 : decode cJ9_min_7cf53 1 = .ok (.iload_n 1, 1) := by decide +kernel
theorem dJ9_min_7cf53_2 : decode cJ9_min_7cf53 2 = .ok (.if_icmp .gt 7, 3) := by decide +kernel
theorem dJ9_min_7cf53_5 : decode cJ9_min_7cf53 5 = .ok (.iload_n 0, 1) := by decide +kernel
theorem dJ9_min_7cf53_6 : decode cJ9_min_7cf53 6 = .ok (.goto 4, 3) := by decide +kernel
theorem dJ9_min_7cf53_9 : decode cJ9_min_7cf53 9 = .ok (.iload_n 1, 1) := by decide +kernel
theorem dJ9_min_7cf53_10 : decode cJ9_min_7cf53 10 = .ok (.ireturn, 1) := by decide +kernel
end
section
/-! THE STATE. Arrays of an object by the number of their field; loops by a body and a number of turns. -/
abbrev Sg : Type := Nat → Nat → Int32
def up2 (g : Sg) (k i : Nat) (x : Int32) : Sg := fun a => cond (Nat.beq a k) (upd (g k) i x) (g a)
def Lp1 {A1 : Type} (F : (A1 → Prop) → A1 → Prop) : Nat → A1 → Prop
  | 0, _ => False
  | n + 1, a1 => F (Lp1 F n) a1
def Lp2 {A1 A2 : Type} (F : (A1 → A2 → Prop) → A1 → A2 → Prop) : Nat → A1 → A2 → Prop
  | 0, _, _ => False
  | n + 1, a1, a2 => F (Lp2 F n) a1 a2
def Lp3 {A1 A2 A3 : Type} (F : (A1 → A2 → A3 → Prop) → A1 → A2 → A3 → Prop) : Nat → A1 → A2 → A3 → Prop
  | 0, _, _, _ => False
  | n + 1, a1, a2, a3 => F (Lp3 F n) a1 a2 a3
def Lp4 {A1 A2 A3 A4 : Type} (F : (A1 → A2 → A3 → A4 → Prop) → A1 → A2 → A3 → A4 → Prop) : Nat → A1 → A2 → A3 → A4 → Prop
  | 0, _, _, _, _ => False
  | n + 1, a1, a2, a3, a4 => F (Lp4 F n) a1 a2 a3 a4
def Lp5 {A1 A2 A3 A4 A5 : Type} (F : (A1 → A2 → A3 → A4 → A5 → Prop) → A1 → A2 → A3 → A4 → A5 → Prop) : Nat → A1 → A2 → A3 → A4 → A5 → Prop
  | 0, _, _, _, _, _ => False
  | n + 1, a1, a2, a3, a4, a5 => F (Lp5 F n) a1 a2 a3 a4 a5
def isB (v : Int32) : Prop := v = 0 ∨ v = 1
theorem isB_nar {v : Int32} (h : isB v) : narrow .boolean (.int v) = .int v := by rcases h with rfl | rfl <;> rfl
def ush (x y : Int32) : Int32 := (x.toUInt32 >>> (y.toUInt32 &&& Int32.toUInt32 31)).toInt32
theorem sw_out {x : Int32} {lo : Int} {n : Nat} (h : ∀ k : Nat, k < n → ¬ x = Int32.ofInt (lo + k)) : x.toInt < lo ∨ lo + n - 1 < x.toInt := by
  rcases Int.lt_or_le x.toInt lo with q | q
  · exact Or.inl q
  rcases Int.lt_or_le (lo + n - 1) x.toInt with r | r
  · exact Or.inr r
  · refine absurd ?_ (h (x.toInt - lo).toNat (by omega))
    have e : lo + ((x.toInt - lo).toNat : Int) = x.toInt := by omega
    rw [e]
    exact (Int32.ofInt_toInt x).symm
abbrev XL (h : Nat) (ad : Nat → Nat) (ca : Nat → ClassId) (tc cl : Int32) (tr : Int64) (g : Sg) : va_W :=
  [(h, .inr (0, [.int tc, .int cl, .long tr, .ref (ad 3), .ref (ad 4), .ref (ad 5), .ref (ad 6), .ref (ad 7), .ref (ad 8), .ref (ad 9), .ref (ad 10), .ref (ad 11), .ref (ad 12)])),
   (ad 3, .inl (ca 3, 8, .inl (g 3))), (ad 4, .inl (ca 4, 8, .inl (g 4))), (ad 5, .inl (ca 5, 8, .inl (g 5))), (ad 6, .inl (ca 6, 16, .inl (g 6))), (ad 7, .inl (ca 7, 8, .inl (g 7))), (ad 8, .inl (ca 8, 9, .inl (g 8))), (ad 9, .inl (ca 9, 256, .inl (g 9))), (ad 10, .inl (ca 10, 256, .inl (g 10))), (ad 11, .inl (ca 11, 256, .inl (g 11))), (ad 12, .inl (ca 12, 256, .inl (g 12)))]
abbrev XT (ca : Nat → ClassId) : List (ClassId × FieldType) :=
  [(ca 3, .int), (ca 4, .int), (ca 5, .int), (ca 6, .int), (ca 7, .int), (ca 8, .int), (ca 9, .int), (ca 10, .int), (ca 11, .int), (ca 12, .boolean)]
abbrev ML (h : Nat) (ad : Nat → Nat) (ca : Nat → ClassId) (tc cl : Int32) (tr : Int64) (g : Sg) : va_W :=
  [(h, .inr (1, [.int tc, .ref (ad 1), .ref (ad 2), .ref (ad 3), .int cl, .long tr, .ref (ad 6), .ref (ad 7), .ref (ad 8)])),
   (ad 1, .inl (ca 1, 64, .inl (g 1))), (ad 2, .inl (ca 2, 8, .inl (g 2))), (ad 3, .inl (ca 3, 16, .inl (g 3))), (ad 6, .inl (ca 6, 256, .inl (g 6))), (ad 7, .inl (ca 7, 8, .inl (g 7))), (ad 8, .inl (ca 8, 6, .inl (g 8)))]
abbrev MT (ca : Nat → ClassId) : List (ClassId × FieldType) :=
  [(ca 1, .boolean), (ca 2, .int), (ca 3, .int), (ca 6, .boolean), (ca 7, .int), (ca 8, .int)]
abbrev at_X1 (dC : Nat → ClassId) (dI : Nat → Nat → Nat) (A : Nat → Prop) (h : Nat) (ad : Nat → Nat) (ca : Nat → ClassId) (tc cl : Int32) (tr : Int64) (u : Sg) (t : State) : Prop :=
  va_P (dC, dI) vwCl (XL h ad ca tc cl tr u) t.heap ∧ va_K (dC, dI) vwCl (XT ca) t ∧ va_D A (XL h ad ca tc cl tr u)
abbrev at_X2 (dC : Nat → ClassId) (dI : Nat → Nat → Nat) (A : Nat → Prop) (h : Nat) (ad : Nat → Nat) (ca : Nat → ClassId) (u : Int32 × Int32 × Int64 × Sg) (t : State) : Prop :=
  va_P (dC, dI) vwCl (XL h ad ca u.1 u.2.1 u.2.2.1 u.2.2.2) t.heap ∧ va_K (dC, dI) vwCl (XT ca) t ∧ va_D A (XL h ad ca u.1 u.2.1 u.2.2.1 u.2.2.2)
abbrev at_M1 (dC : Nat → ClassId) (dI : Nat → Nat → Nat) (A : Nat → Prop) (h : Nat) (ad : Nat → Nat) (ca : Nat → ClassId) (tc cl : Int32) (tr : Int64) (u : Sg) (t : State) : Prop :=
  va_P (dC, dI) vwCl (ML h ad ca tc cl tr u) t.heap ∧ va_K (dC, dI) vwCl (MT ca) t ∧ va_D A (ML h ad ca tc cl tr u)
abbrev at_M2 (dC : Nat → ClassId) (dI : Nat → Nat → Nat) (A : Nat → Prop) (h : Nat) (ad : Nat → Nat) (ca : Nat → ClassId) (u : Int32 × Int32 × Int64 × Sg) (t : State) : Prop :=
  va_P (dC, dI) vwCl (ML h ad ca u.1 u.2.1 u.2.2.1 u.2.2.2) t.heap ∧ va_K (dC, dI) vwCl (MT ca) t ∧ va_D A (ML h ad ca u.1 u.2.1 u.2.2.1 u.2.2.2)
end
section
-- X0_things (I)I, effect 2, room (0, 0)
def wX_things_b20 (P : Int32 → Int32 → Int32 → Int64 → Sg → Prop) (x1 : Int32) (x2 : Int32) (K53 : Int32 → Int32 → Int64 → Sg → Prop) (B : Int32 → Int32 → Int32 → Int64 → Sg → Prop) (x3 : Int32) (tc : Int32) (cl : Int32) (tr : Int64) (g : Sg) : Prop :=
  (((8 : Int32) ≤ x3 → (K53 tc cl tr g)) ∧ (¬ (8 : Int32) ≤ x3 → (vp_in x3 8 ∧ ∀ g_1 : Sg, g_1 = up2 g 3 (x3).toNatClampNeg (0 : Int32) → (vp_in x3 8 ∧ ∀ g_2 : Sg, g_2 = up2 g_1 4 (x3).toNatClampNeg (0 : Int32) → (vp_in x3 8 ∧ ∀ g_3 : Sg, g_3 = up2 g_2 5 (x3).toNatClampNeg (0 : Int32) → (B (x3 + 1) tc cl tr g_3))))))
def wX_things (P : Int32 → Int32 → Int32 → Int64 → Sg → Prop) (tc cl : Int32) (tr : Int64) (g : Sg) (x1 : Int32) : Prop :=
  ((x1 < (1 : Int32) → (P (-1 : Int32) tc cl tr g)) ∧ (¬ x1 < (1 : Int32) → ((x1 ≤ (8 : Int32) → (∃ n_8, Lp5 (wX_things_b20 P x1 tc (fun (tc_4 : Int32) (cl_5 : Int32) (tr_6 : Int64) (g_7 : Sg) => (P tc x1 (0 : Int32) tr_6 g_7))) n_8 (0 : Int32) tc cl tr g)) ∧ (¬ x1 ≤ (8 : Int32) → (P (-1 : Int32) tc cl tr g)))))
-- X0_isThing (I)Z, effect 0, room (0, 0)
def wX_isThing (P : Int32 → Prop) (tc cl : Int32) (tr : Int64) (g : Sg) (x1 : Int32) : Prop :=
  ((x1 < 0 → (P (0 : Int32))) ∧ (¬ x1 < 0 → ((tc ≤ x1 → (P (0 : Int32))) ∧ (¬ tc ≤ x1 → (P (1 : Int32))))))
-- X0_has (II)Z, effect 0, room (0, 0)
def wX_has (P : Int32 → Prop) (x0 : Int32) (x1 : Int32) : Prop :=
  ((((x0 >>> (x1 &&& 31)) &&& (1 : Int32)) = 0 → (P (0 : Int32))) ∧ (¬ ((x0 >>> (x1 &&& 31)) &&& (1 : Int32)) = 0 → (P (1 : Int32))))
-- X0_lay (II)I, effect 1, room (1, 21)
def wX_lay_j94 (P : Int32 → Sg → Prop) (tc cl : Int32) (tr : Int64) (B : Int32 → Sg → Prop) (x3 : Int32) (x4 : Int32) (x5 : Int32) (g : Sg) : Prop :=
  (wX_has (fun r_1 => ((r_1 = 0 → (B (x5 + 1) g)) ∧ (¬ r_1 = 0 → (vp_in x5 8 ∧ (vp_in x5 8 ∧ ∀ g_2 : Sg, g_2 = up2 g 3 (x5).toNatClampNeg ((g 3 (x5).toNatClampNeg) ||| x3) → (B (x5 + 1) g_2)))))) x4 x5)
def wX_lay_b64 (P : Int32 → Sg → Prop) (tc cl : Int32) (tr : Int64) (x3 : Int32) (x4 : Int32) (B : Int32 → Sg → Prop) (x5 : Int32) (g : Sg) : Prop :=
  ((tc ≤ x5 → (P (1 : Int32) g)) ∧ (¬ tc ≤ x5 → (wX_has (fun r_3 => ((r_3 = 0 → (wX_lay_j94 P tc cl tr B x3 x4 x5 g)) ∧ (¬ r_3 = 0 → (vp_in x5 8 ∧ (vp_in x5 8 ∧ ∀ g_4 : Sg, g_4 = up2 g 4 (x5).toNatClampNeg ((g 4 (x5).toNatClampNeg) ||| x4) → (wX_lay_j94 P tc cl tr B x3 x4 x5 g_4)))))) x3 x5)))
def wX_lay (P : Int32 → Sg → Prop) (tc cl : Int32) (tr : Int64) (g : Sg) (x1 : Int32) (x2 : Int32) : Prop :=
  (wX_isThing (fun r_5 => ((r_5 = 0 → (P (-1 : Int32) g)) ∧ (¬ r_5 = 0 → (wX_isThing (fun r_6 => ((r_6 = 0 → (P (-1 : Int32) g)) ∧ (¬ r_6 = 0 → ((x1 < x2 → (vp_in x2 8 ∧ (wX_has (fun r_7 => ((r_7 = 0 → (vp_in x1 8 ∧ (∀ x3_8 : Int32, x3_8 = ((g 3 (x1).toNatClampNeg) ||| ((1 : Int32) <<< (x1 &&& 31))) → (vp_in x2 8 ∧ (∀ x4_9 : Int32, x4_9 = ((g 4 (x2).toNatClampNeg) ||| ((1 : Int32) <<< (x2 &&& 31))) → (∃ n_10, Lp2 (wX_lay_b64 P tc cl tr x3_8 x4_9) n_10 (0 : Int32) g)))))) ∧ (¬ r_7 = 0 → (P (0 : Int32) g)))) (g 3 (x2).toNatClampNeg) x1))) ∧ (¬ x1 < x2 → (P (-1 : Int32) g)))))) tc cl tr g x2)))) tc cl tr g x1)
-- X0_below (II)I, effect 0, room (1, 21)
def wX_below (P : Int32 → Prop) (tc cl : Int32) (tr : Int64) (g : Sg) (x1 : Int32) (x2 : Int32) : Prop :=
  (wX_isThing (fun r_1 => ((r_1 = 0 → (P (-1 : Int32))) ∧ (¬ r_1 = 0 → (wX_isThing (fun r_2 => ((¬ r_2 = 0 → (vp_in x2 8 ∧ (wX_has (fun r_3 => ((r_3 = 0 → (P (0 : Int32))) ∧ (¬ r_3 = 0 → (P (1 : Int32))))) (g 3 (x2).toNatClampNeg) x1))) ∧ (r_2 = 0 → (P (-1 : Int32))))) tc cl tr g x2)))) tc cl tr g x1)
-- X0_weight (II)I, effect 1, room (1, 21)
def wX_weight (P : Int32 → Sg → Prop) (tc cl : Int32) (tr : Int64) (g : Sg) (x1 : Int32) (x2 : Int32) : Prop :=
  (wX_isThing (fun r_1 => ((r_1 = 0 → (P (-1000000 : Int32) g)) ∧ (¬ r_1 = 0 → ((x2 < (-9 : Int32) → (P (-1000000 : Int32) g)) ∧ (¬ x2 < (-9 : Int32) → ((x2 ≤ (9 : Int32) → (vp_in x1 8 ∧ (∀ x3_2 : Int32, x3_2 = (g 5 (x1).toNatClampNeg) → (vp_in x1 8 ∧ ∀ g_3 : Sg, g_3 = up2 g 5 (x1).toNatClampNeg x2 → (P x3_2 g_3))))) ∧ (¬ x2 ≤ (9 : Int32) → (P (-1000000 : Int32) g)))))))) tc cl tr g x1)
-- X0_say (I)I, effect 2, room (1, 21)
def wX_say (P : Int32 → Int32 → Int32 → Int64 → Sg → Prop) (tc cl : Int32) (tr : Int64) (g : Sg) (x1 : Int32) : Prop :=
  (wX_isThing (fun r_1 => ((¬ r_1 = 0 → ((cl < (16 : Int32) → (vp_in cl 16 ∧ ∀ g_2 : Sg, g_2 = up2 g 6 (cl).toNatClampNeg x1 → (∀ cl_3 : Int32, cl_3 = (cl + (1 : Int32)) → (P cl_3 tc cl_3 tr g_2)))) ∧ (¬ cl < (16 : Int32) → (P (-3 : Int32) tc cl tr g)))) ∧ (r_1 = 0 → (P (-1 : Int32) tc cl tr g)))) tc cl tr g x1)
-- X0_hush ()I, effect 2, room (0, 0)
def wX_hush (P : Int32 → Int32 → Int32 → Int64 → Sg → Prop) (tc cl : Int32) (tr : Int64) (g : Sg) : Prop :=
  (P cl tc (0 : Int32) tr g)
-- X0_setCount ()I, effect 0, room (0, 0)
def wX_setCount (P : Int32 → Prop) (tc cl : Int32) (tr : Int64) (g : Sg) : Prop :=
  (P ((1 : Int32) <<< (tc &&& 31)))
-- X0_isSet (I)Z, effect 0, room (1, 20)
def wX_isSet (P : Int32 → Prop) (tc cl : Int32) (tr : Int64) (g : Sg) (x1 : Int32) : Prop :=
  ((x1 < 0 → (P (0 : Int32))) ∧ (¬ x1 < 0 → (wX_setCount (fun r_1 => ((r_1 ≤ x1 → (P (0 : Int32))) ∧ (¬ r_1 ≤ x1 → (P (1 : Int32))))) tc cl tr g)))
-- X0_isHeap (I)Z, effect 0, room (2, 41)
def wX_isHeap_b12 (P : Int32 → Prop) (tc cl : Int32) (tr : Int64) (g : Sg) (x1 : Int32) (B : Int32 → Prop) (x2 : Int32) : Prop :=
  ((tc ≤ x2 → (P (1 : Int32))) ∧ (¬ tc ≤ x2 → (wX_has (fun r_1 => ((r_1 = 0 → (B (x2 + 1))) ∧ (¬ r_1 = 0 → (vp_in x2 8 ∧ ((((g 3 (x2).toNatClampNeg) &&& (x1 ^^^ (-1 : Int32))) = 0 → (B (x2 + 1))) ∧ (¬ ((g 3 (x2).toNatClampNeg) &&& (x1 ^^^ (-1 : Int32))) = 0 → (P (0 : Int32)))))))) x1 x2)))
def wX_isHeap (P : Int32 → Prop) (tc cl : Int32) (tr : Int64) (g : Sg) (x1 : Int32) : Prop :=
  (wX_isSet (fun r_2 => ((¬ r_2 = 0 → (∃ n_3, Lp1 (wX_isHeap_b12 P tc cl tr g x1) n_3 (0 : Int32))) ∧ (r_2 = 0 → (P (0 : Int32))))) tc cl tr g x1)
-- X0_heap (I)I, effect 0, room (3, 63)
def wX_heap (P : Int32 → Prop) (tc cl : Int32) (tr : Int64) (g : Sg) (x1 : Int32) : Prop :=
  (wX_isSet (fun r_1 => ((¬ r_1 = 0 → (wX_isHeap (fun r_2 => ((r_2 = 0 → (P (0 : Int32))) ∧ (¬ r_2 = 0 → (P (1 : Int32))))) tc cl tr g x1)) ∧ (r_1 = 0 → (P (-1 : Int32))))) tc cl tr g x1)
-- X0_many ()I, effect 0, room (3, 63)
def wX_many_b4 (P : Int32 → Prop) (tc cl : Int32) (tr : Int64) (g : Sg) (B : Int32 → Int32 → Prop) (x1 : Int32) (x2 : Int32) : Prop :=
  (wX_setCount (fun r_1 => ((r_1 ≤ x2 → (P x1)) ∧ (¬ r_1 ≤ x2 → (wX_isHeap (fun r_2 => ((r_2 = 0 → (B x1 (x2 + 1))) ∧ (¬ r_2 = 0 → (B (x1 + 1) (x2 + 1))))) tc cl tr g x2)))) tc cl tr g)
def wX_many (P : Int32 → Prop) (tc cl : Int32) (tr : Int64) (g : Sg) : Prop :=
  (∃ n_3, Lp2 (wX_many_b4 P tc cl tr g) n_3 (0 : Int32) (0 : Int32))
-- X0_flipped (II)I, effect 0, room (1, 21)
def wX_flipped_j29 (P : Int32 → Prop) (tc cl : Int32) (tr : Int64) (g : Sg) (x1 : Int32) (x2 : Int32) (y0 : Int32) : Prop :=
  ((¬ y0 = 0 → (P x1)) ∧ (y0 = 0 → (P (x1 ^^^ ((1 : Int32) <<< (x2 &&& 31))))))
def wX_flipped (P : Int32 → Prop) (tc cl : Int32) (tr : Int64) (g : Sg) (x1 : Int32) (x2 : Int32) : Prop :=
  (wX_has (fun r_1 => ((r_1 = 0 → (vp_in x2 8 ∧ (wX_flipped_j29 P tc cl tr g x1 x2 ((g 3 (x2).toNatClampNeg) &&& (x1 ^^^ (-1 : Int32)))))) ∧ (¬ r_1 = 0 → (vp_in x2 8 ∧ (wX_flipped_j29 P tc cl tr g x1 x2 ((g 4 (x2).toNatClampNeg) &&& x1)))))) x1 x2)
-- X0_flip (II)I, effect 0, room (3, 63)
def wX_flip (P : Int32 → Prop) (tc cl : Int32) (tr : Int64) (g : Sg) (x1 : Int32) (x2 : Int32) : Prop :=
  (wX_isHeap (fun r_1 => ((r_1 = 0 → (P (-1 : Int32))) ∧ (¬ r_1 = 0 → (wX_isThing (fun r_2 => ((¬ r_2 = 0 → (wX_flipped (fun r_3 => (P r_3)) tc cl tr g x1 x2)) ∧ (r_2 = 0 → (P (-1 : Int32))))) tc cl tr g x2)))) tc cl tr g x1)
-- X0_isTurnKind (I)Z, effect 0, room (0, 0)
def wX_isTurnKind_j9 (P : Int32 → Prop) : Prop :=
  (P (1 : Int32))
def wX_isTurnKind (P : Int32 → Prop) (x0 : Int32) : Prop :=
  ((x0 = 0 → (wX_isTurnKind_j9 P)) ∧ (¬ x0 = 0 → ((¬ x0 = (1 : Int32) → (P (0 : Int32))) ∧ (x0 = (1 : Int32) → (wX_isTurnKind_j9 P)))))
-- X0_isTurnNumber (I)Z, effect 0, room (0, 0)
def wX_isTurnNumber (P : Int32 → Prop) (x0 : Int32) : Prop :=
  ((x0 < 0 → (P (0 : Int32))) ∧ (¬ x0 < 0 → (((1000 : Int32) < x0 → (P (0 : Int32))) ∧ (¬ (1000 : Int32) < x0 → (P (1 : Int32))))))
-- X0_turnedRound (I)I, effect 0, room (1, 21)
def wX_turnedRound_b4 (P : Int32 → Prop) (tc cl : Int32) (tr : Int64) (g : Sg) (x1 : Int32) (B : Int32 → Int32 → Prop) (x2 : Int32) (x3 : Int32) : Prop :=
  ((tc ≤ x3 → (P x2)) ∧ (¬ tc ≤ x3 → (wX_has (fun r_1 => ((¬ r_1 = 0 → (B x2 (x3 + 1))) ∧ (r_1 = 0 → (vp_in x3 8 ∧ ((¬ ((g 3 (x3).toNatClampNeg) &&& (x1 ^^^ (-1 : Int32))) = 0 → (B x2 (x3 + 1))) ∧ (((g 3 (x3).toNatClampNeg) &&& (x1 ^^^ (-1 : Int32))) = 0 → (vp_in x3 8 ∧ (∀ x2_2 : Int32, x2_2 = (x2 ||| ((g 3 (x3).toNatClampNeg) ||| ((1 : Int32) <<< (x3 &&& 31)))) → (B x2_2 (x3 + 1)))))))))) x1 x3)))
def wX_turnedRound (P : Int32 → Prop) (tc cl : Int32) (tr : Int64) (g : Sg) (x1 : Int32) : Prop :=
  (∃ n_3, Lp2 (wX_turnedRound_b4 P tc cl tr g x1) n_3 (0 : Int32) (0 : Int32))
-- X0_turnedByChain (I)I, effect 0, room (2, 44)
def wX_turnedByChain_b4 (P : Int32 → Prop) (tc cl : Int32) (tr : Int64) (g : Sg) (B : Int32 → Int32 → Prop) (x2 : Int32) (x3 : Int32) : Prop :=
  ((cl ≤ x3 → (P x2)) ∧ (¬ cl ≤ x3 → (vp_in x3 16 ∧ (wX_flipped (fun r_1 => (B r_1 (x3 + 1))) tc cl tr g x2 (g 6 (x3).toNatClampNeg)))))
def wX_turnedByChain (P : Int32 → Prop) (tc cl : Int32) (tr : Int64) (g : Sg) (x1 : Int32) : Prop :=
  (∃ n_2, Lp2 (wX_turnedByChain_b4 P tc cl tr g) n_2 x1 (0 : Int32))
-- X0_turned (II)I, effect 0, room (3, 67)
def wX_turned (P : Int32 → Prop) (tc cl : Int32) (tr : Int64) (g : Sg) (x1 : Int32) (x2 : Int32) : Prop :=
  ((¬ x2 = 0 → (wX_turnedByChain (fun r_1 => (P r_1)) tc cl tr g x1)) ∧ (x2 = 0 → (wX_turnedRound (fun r_2 => (P r_2)) tc cl tr g x1)))
-- X0_turn (III)I, effect 0, room (4, 89)
def wX_turn_b30 (P : Int32 → Prop) (tc cl : Int32) (tr : Int64) (g : Sg) (x2 : Int32) (x3 : Int32) (B : Int32 → Int32 → Prop) (x4 : Int32) (x5 : Int32) : Prop :=
  ((x3 ≤ x5 → (P x4)) ∧ (¬ x3 ≤ x5 → (wX_turned (fun r_1 => (B r_1 (x5 + 1))) tc cl tr g x4 x2)))
def wX_turn (P : Int32 → Prop) (tc cl : Int32) (tr : Int64) (g : Sg) (x1 : Int32) (x2 : Int32) (x3 : Int32) : Prop :=
  (wX_isHeap (fun r_2 => ((r_2 = 0 → (P (-1 : Int32))) ∧ (¬ r_2 = 0 → (wX_isTurnKind (fun r_3 => ((r_3 = 0 → (P (-1 : Int32))) ∧ (¬ r_3 = 0 → (wX_isTurnNumber (fun r_4 => ((¬ r_4 = 0 → (∃ n_5, Lp2 (wX_turn_b30 P tc cl tr g x2 x3) n_5 x1 (0 : Int32))) ∧ (r_4 = 0 → (P (-1 : Int32))))) x3)))) x2)))) tc cl tr g x1)
-- X0_walkOrbit (II)I, effect 1, room (4, 89)
def wX_walkOrbit_b5 (P : Int32 → Sg → Prop) (tc cl : Int32) (tr : Int64) (x1 : Int32) (x2 : Int32) (B : Int32 → Int32 → Sg → Prop) (x3 : Int32) (x4 : Int32) (g : Sg) : Prop :=
  (vp_in x3 256 ∧ ∀ g_1 : Sg, g_1 = up2 g 12 (x3).toNatClampNeg (vp_nar .boolean (1 : Int32)) → (wX_turned (fun r_2 => ((r_2 = x1 → (P (x4 + 1) g_1)) ∧ (¬ r_2 = x1 → (((x4 + 1) < (256 : Int32) → (B r_2 (x4 + 1) g_1)) ∧ (¬ (x4 + 1) < (256 : Int32) → (P (x4 + 1) g_1)))))) tc cl tr g_1 x3 x2))
def wX_walkOrbit (P : Int32 → Sg → Prop) (tc cl : Int32) (tr : Int64) (g : Sg) (x1 : Int32) (x2 : Int32) : Prop :=
  (∃ n_3, Lp3 (wX_walkOrbit_b5 P tc cl tr x1 x2) n_3 x1 (0 : Int32) g)
-- X0_orbit (II)I, effect 1, room (5, 113)
def wX_orbit (P : Int32 → Sg → Prop) (tc cl : Int32) (tr : Int64) (g : Sg) (x1 : Int32) (x2 : Int32) : Prop :=
  (wX_isHeap (fun r_1 => ((r_1 = 0 → (P (-1 : Int32) g)) ∧ (¬ r_1 = 0 → (wX_isTurnKind (fun r_2 => ((¬ r_2 = 0 → (wX_walkOrbit (fun r_3 g_4 => (P r_3 g_4)) tc cl tr g x1 x2)) ∧ (r_2 = 0 → (P (-1 : Int32) g)))) x2)))) tc cl tr g x1)
-- X0_findOrbits (I)I, effect 1, room (5, 113)
def wX_findOrbits_j28 (P : Int32 → Sg → Prop) (tc cl : Int32) (tr : Int64) (B : Int32 → Sg → Prop) (K35 : Sg → Prop) (x1 : Int32) (x2 : Int32) (y1 : Int32) (y2 : Int32) (g : Sg) : Prop :=
  (vp_in y1 256 ∧ ∀ g_1 : Sg, g_1 = up2 g 12 (y1).toNatClampNeg (vp_nar .boolean y2) → (B (x2 + 1) g_1))
def wX_findOrbits_b2 (P : Int32 → Sg → Prop) (tc cl : Int32) (tr : Int64) (x1 : Int32) (K35 : Sg → Prop) (B : Int32 → Sg → Prop) (x2 : Int32) (g : Sg) : Prop :=
  (wX_setCount (fun r_2 => ((r_2 ≤ x2 → (K35 g)) ∧ (¬ r_2 ≤ x2 → (wX_isHeap (fun r_3 => ((¬ r_3 = 0 → (wX_findOrbits_j28 P tc cl tr B K35 x1 x2 x2 (0 : Int32) g)) ∧ (r_3 = 0 → (wX_findOrbits_j28 P tc cl tr B K35 x1 x2 x2 (1 : Int32) g)))) tc cl tr g x2)))) tc cl tr g)
def wX_findOrbits_b39 (P : Int32 → Sg → Prop) (tc cl : Int32) (tr : Int64) (x1 : Int32) (B : Int32 → Int32 → Sg → Prop) (x2 : Int32) (x3 : Int32) (g : Sg) : Prop :=
  (wX_setCount (fun r_4 => ((r_4 ≤ x3 → (P x2 g)) ∧ (¬ r_4 ≤ x3 → (vp_in x3 256 ∧ ((¬ (g 12 (x3).toNatClampNeg) = 0 → (B x2 (x3 + 1) g)) ∧ ((g 12 (x3).toNatClampNeg) = 0 → (vp_in x2 256 ∧ ∀ g_5 : Sg, g_5 = up2 g 10 (x2).toNatClampNeg x3 → (wX_walkOrbit (fun r_6 g_7 => (vp_in x2 256 ∧ ∀ g_8 : Sg, g_8 = up2 g_7 11 (x2).toNatClampNeg r_6 → (B (x2 + 1) (x3 + 1) g_8))) tc cl tr g_5 x3 x1)))))))) tc cl tr g)
def wX_findOrbits (P : Int32 → Sg → Prop) (tc cl : Int32) (tr : Int64) (g : Sg) (x1 : Int32) : Prop :=
  (∃ n_11, Lp2 (wX_findOrbits_b2 P tc cl tr x1 (fun (g_9 : Sg) => (∃ n_10, Lp3 (wX_findOrbits_b39 P tc cl tr x1) n_10 (0 : Int32) (0 : Int32) g_9))) n_11 (0 : Int32) g)
-- X0_commonDivisor (II)I, effect 0, room (1, 21)
def wX_commonDivisor_b7 (P : Int32 → Prop) (K34 : Int32 → Prop) (B : Int32 → Int32 → Int32 → Prop) (x2 : Int32) (x3 : Int32) (x4 : Int32) : Prop :=
  (((100 : Int32) ≤ x4 → (K34 x2)) ∧ (¬ (100 : Int32) ≤ x4 → ((x3 = 0 → (K34 x2)) ∧ (¬ x3 = 0 → (¬ x3 = 0 ∧ (∀ x5_1 : Int32, x5_1 = (x2 - x2 / x3 * x3) → (B x3 x5_1 (x4 + 1))))))))
def wX_commonDivisor (P : Int32 → Prop) (x0 : Int32) (x1 : Int32) : Prop :=
  (∃ n_3, Lp3 (wX_commonDivisor_b7 P (fun (x2_2 : Int32) => (P (if (1 : Int32) < x2_2 then x2_2 else (1 : Int32))))) n_3 x0 x1 (0 : Int32))
-- X0_orderOf (I)I, effect 0, room (2, 46)
def wX_orderOf_b4 (P : Int32 → Prop) (tc cl : Int32) (tr : Int64) (g : Sg) (x1 : Int32) (B : Int32 → Int32 → Prop) (x2 : Int32) (x3 : Int32) : Prop :=
  ((x1 ≤ x3 → (P x2)) ∧ (¬ x1 ≤ x3 → (vp_in x3 256 ∧ (vp_in x3 256 ∧ (wX_commonDivisor (fun r_1 => (¬ r_1 = 0 ∧ (∀ x4_2 : Int32, x4_2 = ((g 11 (x3).toNatClampNeg) / r_1) → (∀ x5_3 : Int64, x5_3 = ((Int32.toInt64 x2) * (Int32.toInt64 x4_2)) → (((lg_cmp x5_3 (1000000000 : Int64)) ≤ 0 → (∀ x2_4 : Int32, x2_4 = (Int64.toInt32 x5_3) → (B x2_4 (x3 + 1)))) ∧ (¬ (lg_cmp x5_3 (1000000000 : Int64)) ≤ 0 → (P (-9 : Int32)))))))) x2 (g 11 (x3).toNatClampNeg))))))
def wX_orderOf (P : Int32 → Prop) (tc cl : Int32) (tr : Int64) (g : Sg) (x1 : Int32) : Prop :=
  (∃ n_5, Lp2 (wX_orderOf_b4 P tc cl tr g x1) n_5 (1 : Int32) (0 : Int32))
-- X0_longestOf (I)I, effect 0, room (1, 21)
def wX_longestOf_b4 (P : Int32 → Prop) (tc cl : Int32) (tr : Int64) (g : Sg) (x1 : Int32) (B : Int32 → Int32 → Prop) (x2 : Int32) (x3 : Int32) : Prop :=
  ((x1 ≤ x3 → (P x2)) ∧ (¬ x1 ≤ x3 → (vp_in x3 256 ∧ (∀ x2_1 : Int32, x2_1 = (if x2 < (g 11 (x3).toNatClampNeg) then (g 11 (x3).toNatClampNeg) else x2) → (B x2_1 (x3 + 1))))))
def wX_longestOf (P : Int32 → Prop) (tc cl : Int32) (tr : Int64) (g : Sg) (x1 : Int32) : Prop :=
  (∃ n_2, Lp2 (wX_longestOf_b4 P tc cl tr g x1) n_2 (0 : Int32) (0 : Int32))
-- X0_orbits (II)I, effect 1, room (6, 136)
def wX_orbits (P : Int32 → Sg → Prop) (tc cl : Int32) (tr : Int64) (g : Sg) (x1 : Int32) (x2 : Int32) : Prop :=
  (wX_isTurnKind (fun r_1 => ((r_1 = 0 → (P (-1 : Int32) g)) ∧ (¬ r_1 = 0 → ((x2 < 0 → (P (-1 : Int32) g)) ∧ (¬ x2 < 0 → ((x2 ≤ (2 : Int32) → (wX_findOrbits (fun r_2 g_3 => ((¬ x2 = 0 → ((¬ x2 = (1 : Int32) → (wX_longestOf (fun r_4 => (P r_4 g_3)) tc cl tr g_3 r_2)) ∧ (x2 = (1 : Int32) → (wX_orderOf (fun r_5 => (P r_5 g_3)) tc cl tr g_3 r_2)))) ∧ (x2 = 0 → (P r_2 g_3)))) tc cl tr g x1)) ∧ (¬ x2 ≤ (2 : Int32) → (P (-1 : Int32) g)))))))) x1)
-- X0_isMeasureKind (I)Z, effect 0, room (0, 0)
def wX_isMeasureKind (P : Int32 → Prop) (x0 : Int32) : Prop :=
  ((x0 < 0 → (P (0 : Int32))) ∧ (¬ x0 < 0 → (((2 : Int32) < x0 → (P (0 : Int32))) ∧ (¬ (2 : Int32) < x0 → (P (1 : Int32))))))
-- X0_traceOf (I)I, effect 0, room (0, 0)
def wX_traceOf_j10 (P : Int32 → Prop) (x0 : Int32) (x1 : Int32) : Prop :=
  ((x0 < (2 : Int32) → (P x1)) ∧ (¬ x0 < (2 : Int32) → (P (x1 + 100))))
def wX_traceOf (P : Int32 → Prop) (x0 : Int32) : Prop :=
  ((x0 < (1 : Int32) → (wX_traceOf_j10 P x0 (1 : Int32))) ∧ (¬ x0 < (1 : Int32) → (wX_traceOf_j10 P x0 ((1 : Int32) + 10))))
-- J6_bitCount_0f7a4 (I)I, effect 0, room (0, 0)
def wJ_bitCount (P : Int32 → Prop) (x0 : Int32) : Prop :=
  (∀ x0_1 : Int32, x0_1 = (x0 - ((ush x0 (1 : Int32)) &&& (1431655765 : Int32))) → (∀ x0_2 : Int32, x0_2 = ((x0_1 &&& (858993459 : Int32)) + ((ush x0_1 (2 : Int32)) &&& (858993459 : Int32))) → (∀ x0_3 : Int32, x0_3 = ((x0_2 + (ush x0_2 (4 : Int32))) &&& (252645135 : Int32)) → (∀ x0_4 : Int32, x0_4 = (x0_3 + (ush x0_3 (8 : Int32))) → (∀ x0_5 : Int32, x0_5 = (x0_4 + (ush x0_4 (16 : Int32))) → (P (x0_5 &&& (63 : Int32))))))))
-- X0_weighed (I)I, effect 0, room (1, 21)
def wX_weighed_b7 (P : Int32 → Prop) (tc cl : Int32) (tr : Int64) (g : Sg) (x1 : Int32) (B : Int32 → Int32 → Prop) (x2 : Int32) (x3 : Int32) : Prop :=
  ((tc ≤ x3 → (P x2)) ∧ (¬ tc ≤ x3 → (wX_has (fun r_1 => ((r_1 = 0 → (B x2 (x3 + 1))) ∧ (¬ r_1 = 0 → (vp_in x3 8 ∧ (∀ x2_2 : Int32, x2_2 = (x2 + (g 5 (x3).toNatClampNeg)) → (B x2_2 (x3 + 1))))))) x1 x3)))
def wX_weighed (P : Int32 → Prop) (tc cl : Int32) (tr : Int64) (g : Sg) (x1 : Int32) : Prop :=
  (wJ_bitCount (fun r_3 => (∃ n_4, Lp2 (wX_weighed_b7 P tc cl tr g x1) n_4 r_3 (0 : Int32))) x1)
-- X0_edged (I)I, effect 0, room (2, 44)
def wX_edged_b8 (P : Int32 → Prop) (tc cl : Int32) (tr : Int64) (g : Sg) (x1 : Int32) (B : Int32 → Int32 → Prop) (x2 : Int32) (x3 : Int32) : Prop :=
  ((tc ≤ x3 → (P x2)) ∧ (¬ tc ≤ x3 → (wX_has (fun r_1 => ((r_1 = 0 → (B x2 (x3 + 1))) ∧ (¬ r_1 = 0 → (vp_in x3 8 ∧ ((¬ ((g 4 (x3).toNatClampNeg) &&& x1) = 0 → (B x2 (x3 + 1))) ∧ (((g 4 (x3).toNatClampNeg) &&& x1) = 0 → (B (x2 + 1) (x3 + 1)))))))) x1 x3)))
def wX_edged (P : Int32 → Prop) (tc cl : Int32) (tr : Int64) (g : Sg) (x1 : Int32) : Prop :=
  (wX_weighed (fun r_2 => (∃ n_3, Lp2 (wX_edged_b8 P tc cl tr g x1) n_3 r_2 (0 : Int32))) tc cl tr g x1)
-- X0_measured (II)I, effect 0, room (3, 67)
def wX_measured (P : Int32 → Prop) (tc cl : Int32) (tr : Int64) (g : Sg) (x1 : Int32) (x2 : Int32) : Prop :=
  ((¬ x1 = (2 : Int32) → ((¬ x1 = (1 : Int32) → (wJ_bitCount (fun r_1 => (P r_1)) x2)) ∧ (x1 = (1 : Int32) → (wX_weighed (fun r_2 => (P r_2)) tc cl tr g x2)))) ∧ (x1 = (2 : Int32) → (wX_edged (fun r_3 => (P r_3)) tc cl tr g x2)))
-- X0_measure (II)I, effect 2, room (4, 89)
def wX_measure (P : Int32 → Int32 → Int32 → Int64 → Sg → Prop) (tc cl : Int32) (tr : Int64) (g : Sg) (x1 : Int32) (x2 : Int32) : Prop :=
  (wX_isMeasureKind (fun r_1 => ((r_1 = 0 → (P (-1000000 : Int32) tc cl tr g)) ∧ (¬ r_1 = 0 → (wX_isHeap (fun r_2 => ((¬ r_2 = 0 → (wX_traceOf (fun r_3 => (∀ tr_4 : Int64, tr_4 = (tr + (Int32.toInt64 r_3)) → (wX_measured (fun r_5 => (P r_5 tc cl tr_4 g)) tc cl tr_4 g x1 x2))) x1)) ∧ (r_2 = 0 → (P (-1000000 : Int32) tc cl tr g)))) tc cl tr g x2)))) x1)
-- X0_sumOfOrbit (IIII)I, effect 0, room (4, 89)
def wX_sumOfOrbit_b9 (P : Int32 → Prop) (tc cl : Int32) (tr : Int64) (g : Sg) (x2 : Int32) (x3 : Int32) (x4 : Int32) (B : Int32 → Int32 → Int32 → Prop) (x5 : Int32) (x6 : Int32) (x7 : Int32) : Prop :=
  ((x2 ≤ x7 → (P x5)) ∧ (¬ x2 ≤ x7 → (wX_measured (fun r_1 => (∀ x5_2 : Int32, x5_2 = (x5 + r_1) → (wX_turned (fun r_3 => (B x5_2 r_3 (x7 + 1))) tc cl tr g x6 x3))) tc cl tr g x4 x6)))
def wX_sumOfOrbit (P : Int32 → Prop) (tc cl : Int32) (tr : Int64) (g : Sg) (x1 : Int32) (x2 : Int32) (x3 : Int32) (x4 : Int32) : Prop :=
  (∃ n_4, Lp3 (wX_sumOfOrbit_b9 P tc cl tr g x2 x3 x4) n_4 (0 : Int32) x1 (0 : Int32))
-- X0_mean (IIII)I, effect 1, room (5, 116)
def wX_mean (P : Int32 → Sg → Prop) (tc cl : Int32) (tr : Int64) (g : Sg) (x1 : Int32) (x2 : Int32) (x3 : Int32) (x4 : Int32) : Prop :=
  (wX_isHeap (fun r_1 => ((r_1 = 0 → (P (-1000000 : Int32) g)) ∧ (¬ r_1 = 0 → (wX_isTurnKind (fun r_2 => ((r_2 = 0 → (P (-1000000 : Int32) g)) ∧ (¬ r_2 = 0 → (wX_isMeasureKind (fun r_3 => ((r_3 = 0 → (P (-1000000 : Int32) g)) ∧ (¬ r_3 = 0 → ((x4 < 0 → (P (-1000000 : Int32) g)) ∧ (¬ x4 < 0 → ((x4 ≤ (1 : Int32) → (wX_walkOrbit (fun r_4 g_5 => (wX_sumOfOrbit (fun r_6 => (wX_commonDivisor (fun r_7 => ((¬ x4 = 0 → (¬ r_7 = 0 ∧ (P (r_4 / r_7) g_5))) ∧ (x4 = 0 → (¬ r_7 = 0 ∧ (P (r_6 / r_7) g_5))))) (if 0 ≤ r_6 then r_6 else 0 - r_6) r_4)) tc cl tr g_5 x1 r_4 x2 x3)) tc cl tr g x1 x2)) ∧ (¬ x4 ≤ (1 : Int32) → (P (-1000000 : Int32) g)))))))) x3)))) x2)))) tc cl tr g x1)
-- X0_even (II)I, effect 1, room (6, 136)
def wX_even_b49 (P : Int32 → Sg → Prop) (tc cl : Int32) (tr : Int64) (x1 : Int32) (x2 : Int32) (x3 : Int32) (x4 : Int32) (x5 : Int32) (B : Int32 → Sg → Prop) (x6 : Int32) (g : Sg) : Prop :=
  ((x3 ≤ x6 → (P (1 : Int32) g)) ∧ (¬ x3 ≤ x6 → (vp_in x6 256 ∧ (vp_in x6 256 ∧ (wX_sumOfOrbit (fun r_1 => (vp_in x6 256 ∧ (((r_1 * x4) = (x5 * (g 11 (x6).toNatClampNeg)) → (B (x6 + 1) g)) ∧ (¬ (r_1 * x4) = (x5 * (g 11 (x6).toNatClampNeg)) → (P (0 : Int32) g))))) tc cl tr g (g 10 (x6).toNatClampNeg) (g 11 (x6).toNatClampNeg) x1 x2)))))
def wX_even (P : Int32 → Sg → Prop) (tc cl : Int32) (tr : Int64) (g : Sg) (x1 : Int32) (x2 : Int32) : Prop :=
  (wX_isTurnKind (fun r_2 => ((r_2 = 0 → (P (-1 : Int32) g)) ∧ (¬ r_2 = 0 → (wX_isMeasureKind (fun r_3 => ((¬ r_3 = 0 → (wX_findOrbits (fun r_4 g_5 => (vp_in (0 : Int32) 256 ∧ (∀ x4_6 : Int32, x4_6 = (g_5 11 ((0 : Int32)).toNatClampNeg) → (vp_in (0 : Int32) 256 ∧ (wX_sumOfOrbit (fun r_7 => (∃ n_8, Lp2 (wX_even_b49 P tc cl tr x1 x2 r_4 x4_6 r_7) n_8 (1 : Int32) g_5)) tc cl tr g_5 (g_5 10 ((0 : Int32)).toNatClampNeg) x4_6 x1 x2))))) tc cl tr g x1)) ∧ (r_3 = 0 → (P (-1 : Int32) g)))) x2)))) x1)
-- X0_isHeight (I)Z, effect 0, room (0, 0)
def wX_isHeight (P : Int32 → Prop) (x0 : Int32) : Prop :=
  ((x0 < (1 : Int32) → (P (0 : Int32))) ∧ (¬ x0 < (1 : Int32) → (((3 : Int32) < x0 → (P (0 : Int32))) ∧ (¬ (3 : Int32) < x0 → (P (1 : Int32))))))
-- X0_extendRows ()V, effect 1, room (3, 63)
def wX_extendRows_b61 (P : Sg → Prop) (tc cl : Int32) (tr : Int64) (B : Int32 → Sg → Prop) (x1 : Int32) (g : Sg) : Prop :=
  (wX_setCount (fun r_1 => ((r_1 ≤ x1 → (P g)) ∧ (¬ r_1 ≤ x1 → (wX_isHeap (fun r_2 => ((¬ r_2 = 0 → (B (x1 + 1) g)) ∧ (r_2 = 0 → (vp_in x1 256 ∧ ∀ g_3 : Sg, g_3 = up2 g 9 (x1).toNatClampNeg (0 : Int32) → (B (x1 + 1) g_3))))) tc cl tr g x1)))) tc cl tr g)
def wX_extendRows_b12 (P : Sg → Prop) (tc cl : Int32) (tr : Int64) (x1 : Int32) (K53 : Sg → Prop) (B : Int32 → Sg → Prop) (x2 : Int32) (g : Sg) : Prop :=
  (wX_setCount (fun r_4 => ((r_4 ≤ x2 → (K53 g)) ∧ (¬ r_4 ≤ x2 → (wX_has (fun r_5 => ((r_5 = 0 → (B (x2 + 1) g)) ∧ (¬ r_5 = 0 → (vp_in x2 256 ∧ (vp_in (x2 ^^^ ((1 : Int32) <<< (x1 &&& 31))) 256 ∧ (vp_in x2 256 ∧ ∀ g_6 : Sg, g_6 = up2 g 9 (x2).toNatClampNeg ((g 9 (x2).toNatClampNeg) + (g 9 ((x2 ^^^ ((1 : Int32) <<< (x1 &&& 31)))).toNatClampNeg)) → (B (x2 + 1) g_6))))))) x2 x1)))) tc cl tr g)
def wX_extendRows_b2 (P : Sg → Prop) (tc cl : Int32) (tr : Int64) (K59 : Sg → Prop) (B : Int32 → Sg → Prop) (x1 : Int32) (g : Sg) : Prop :=
  ((tc ≤ x1 → (K59 g)) ∧ (¬ tc ≤ x1 → (∃ n_8, Lp2 (wX_extendRows_b12 P tc cl tr x1 (fun (g_7 : Sg) => (B (x1 + 1) g_7))) n_8 (0 : Int32) g)))
def wX_extendRows (P : Sg → Prop) (tc cl : Int32) (tr : Int64) (g : Sg) : Prop :=
  (∃ n_11, Lp2 (wX_extendRows_b2 P tc cl tr (fun (g_9 : Sg) => (∃ n_10, Lp2 (wX_extendRows_b61 P tc cl tr) n_10 (0 : Int32) g_9))) n_11 (0 : Int32) g)
-- X0_fillings (I)I, effect 1, room (4, 85)
def wX_fillings_b46 (P : Int32 → Sg → Prop) (tc cl : Int32) (tr : Int64) (x1 : Int32) (K61 : Sg → Prop) (B : Int32 → Sg → Prop) (x2 : Int32) (g : Sg) : Prop :=
  ((x1 < x2 → (K61 g)) ∧ (¬ x1 < x2 → (wX_extendRows (fun g_1 => (B (x2 + 1) g_1)) tc cl tr g)))
def wX_fillings_b65 (P : Int32 → Sg → Prop) (tc cl : Int32) (tr : Int64) (B : Int32 → Int32 → Sg → Prop) (x2 : Int32) (x3 : Int32) (g : Sg) : Prop :=
  (wX_setCount (fun r_2 => ((r_2 ≤ x3 → (P x2 g)) ∧ (¬ r_2 ≤ x3 → (vp_in x3 256 ∧ (∀ x2_3 : Int32, x2_3 = (x2 + (g 9 (x3).toNatClampNeg)) → (B x2_3 (x3 + 1) g)))))) tc cl tr g)
def wX_fillings_j37 (P : Int32 → Sg → Prop) (tc cl : Int32) (tr : Int64) (B : Int32 → Sg → Prop) (K44 : Sg → Prop) (x1 : Int32) (x2 : Int32) (y1 : Int32) (y2 : Int32) (g : Sg) : Prop :=
  (vp_in y1 256 ∧ ∀ g_4 : Sg, g_4 = up2 g 9 (y1).toNatClampNeg y2 → (B (x2 + 1) g_4))
def wX_fillings_b11 (P : Int32 → Sg → Prop) (tc cl : Int32) (tr : Int64) (x1 : Int32) (K44 : Sg → Prop) (B : Int32 → Sg → Prop) (x2 : Int32) (g : Sg) : Prop :=
  (wX_setCount (fun r_5 => ((r_5 ≤ x2 → (K44 g)) ∧ (¬ r_5 ≤ x2 → (wX_isHeap (fun r_6 => ((r_6 = 0 → (wX_fillings_j37 P tc cl tr B K44 x1 x2 x2 (0 : Int32) g)) ∧ (¬ r_6 = 0 → (wX_fillings_j37 P tc cl tr B K44 x1 x2 x2 (1 : Int32) g)))) tc cl tr g x2)))) tc cl tr g)
def wX_fillings (P : Int32 → Sg → Prop) (tc cl : Int32) (tr : Int64) (g : Sg) (x1 : Int32) : Prop :=
  (wX_isHeight (fun r_7 => ((¬ r_7 = 0 → (∃ n_12, Lp2 (wX_fillings_b11 P tc cl tr x1 (fun (g_8 : Sg) => (∃ n_11, Lp2 (wX_fillings_b46 P tc cl tr x1 (fun (g_9 : Sg) => (∃ n_10, Lp3 (wX_fillings_b65 P tc cl tr) n_10 (0 : Int32) (0 : Int32) g_9))) n_11 (2 : Int32) g_8))) n_12 (0 : Int32) g)) ∧ (r_7 = 0 → (P (-1 : Int32) g)))) x1)
-- X0_digitsFallUpwards ()Z, effect 0, room (1, 21)
def wX_digitsFallUpwards_b12 (P : Int32 → Prop) (tc cl : Int32) (tr : Int64) (g : Sg) (x1 : Int32) (K53 : Prop) (B : Int32 → Prop) (x2 : Int32) : Prop :=
  ((x1 ≤ x2 → K53) ∧ (¬ x1 ≤ x2 → (vp_in x1 8 ∧ (wX_has (fun r_1 => ((r_1 = 0 → (B (x2 + 1))) ∧ (¬ r_1 = 0 → (vp_in x2 8 ∧ (vp_in x1 8 ∧ (((g 7 (x1).toNatClampNeg) ≤ (g 7 (x2).toNatClampNeg) → (B (x2 + 1))) ∧ (¬ (g 7 (x1).toNatClampNeg) ≤ (g 7 (x2).toNatClampNeg) → (P (0 : Int32))))))))) (g 3 (x1).toNatClampNeg) x2))))
def wX_digitsFallUpwards_b2 (P : Int32 → Prop) (tc cl : Int32) (tr : Int64) (g : Sg) (B : Int32 → Prop) (x1 : Int32) : Prop :=
  ((tc ≤ x1 → (P (1 : Int32))) ∧ (¬ tc ≤ x1 → (∃ n_2, Lp1 (wX_digitsFallUpwards_b12 P tc cl tr g x1 ((B (x1 + 1)))) n_2 (0 : Int32))))
def wX_digitsFallUpwards (P : Int32 → Prop) (tc cl : Int32) (tr : Int64) (g : Sg) : Prop :=
  (∃ n_3, Lp1 (wX_digitsFallUpwards_b2 P tc cl tr g) n_3 (0 : Int32))
-- X0_readFilling (II)Z, effect 1, room (2, 43)
def wX_readFilling_b18 (P : Int32 → Sg → Prop) (tc cl : Int32) (tr : Int64) (x1 : Int32) (K51 : Int32 → Sg → Prop) (B : Int32 → Int32 → Sg → Prop) (x3 : Int32) (x4 : Int32) (g : Sg) : Prop :=
  ((tc ≤ x4 → (K51 x3 g)) ∧ (¬ tc ≤ x4 → (¬ (x1 + (1 : Int32)) = 0 ∧ (vp_in x4 8 ∧ ∀ g_1 : Sg, g_1 = up2 g 7 (x4).toNatClampNeg (x3 - x3 / (x1 + (1 : Int32)) * (x1 + (1 : Int32))) → (¬ (x1 + (1 : Int32)) = 0 ∧ (∀ x3_2 : Int32, x3_2 = (x3 / (x1 + (1 : Int32))) → (B x3_2 (x4 + 1) g_1)))))))
def wX_readFilling (P : Int32 → Sg → Prop) (tc cl : Int32) (tr : Int64) (g : Sg) (x1 : Int32) (x2 : Int32) : Prop :=
  (wX_isHeight (fun r_3 => ((r_3 = 0 → (P (0 : Int32) g)) ∧ (¬ r_3 = 0 → ((0 ≤ x2 → (∃ n_7, Lp3 (wX_readFilling_b18 P tc cl tr x1 (fun (x3_4 : Int32) (g_5 : Sg) => ((¬ x3_4 = 0 → (P (0 : Int32) g_5)) ∧ (x3_4 = 0 → (wX_digitsFallUpwards (fun r_6 => ((r_6 = 0 → (P (0 : Int32) g_5)) ∧ (¬ r_6 = 0 → (P (1 : Int32) g_5)))) tc cl tr g_5))))) n_7 x2 (0 : Int32) g)) ∧ (¬ 0 ≤ x2 → (P (0 : Int32) g)))))) x1)
-- X0_flipDigit (II)V, effect 1, room (1, 21)
def wX_flipDigit_j43 (P : Sg → Prop) (tc cl : Int32) (tr : Int64) (B : Int32 → Int32 → Int32 → Sg → Prop) (K77 : Int32 → Int32 → Sg → Prop) (x2 : Int32) (x3 : Int32) (x4 : Int32) (x5 : Int32) (g : Sg) : Prop :=
  (vp_in x2 8 ∧ (wX_has (fun r_1 => ((r_1 = 0 → (B x3 x4 (x5 + 1) g)) ∧ (¬ r_1 = 0 → (vp_in x5 8 ∧ (∀ x4_2 : Int32, x4_2 = (if x4 < (g 7 (x5).toNatClampNeg) then (g 7 (x5).toNatClampNeg) else x4) → (B x3 x4_2 (x5 + 1) g)))))) (g 4 (x2).toNatClampNeg) x5))
def wX_flipDigit_b8 (P : Sg → Prop) (tc cl : Int32) (tr : Int64) (x2 : Int32) (K77 : Int32 → Int32 → Sg → Prop) (B : Int32 → Int32 → Int32 → Sg → Prop) (x3 : Int32) (x4 : Int32) (x5 : Int32) (g : Sg) : Prop :=
  ((tc ≤ x5 → (K77 x3 x4 g)) ∧ (¬ tc ≤ x5 → (vp_in x2 8 ∧ (wX_has (fun r_3 => ((r_3 = 0 → (wX_flipDigit_j43 P tc cl tr B K77 x2 x3 x4 x5 g)) ∧ (¬ r_3 = 0 → (vp_in x5 8 ∧ (∀ x3_4 : Int32, x3_4 = (if (g 7 (x5).toNatClampNeg) < x3 then (g 7 (x5).toNatClampNeg) else x3) → (wX_flipDigit_j43 P tc cl tr B K77 x2 x3_4 x4 x5 g)))))) (g 3 (x2).toNatClampNeg) x5))))
def wX_flipDigit (P : Sg → Prop) (tc cl : Int32) (tr : Int64) (g : Sg) (x1 : Int32) (x2 : Int32) : Prop :=
  (∃ n_9, Lp4 (wX_flipDigit_b8 P tc cl tr x2 (fun (x3_5 : Int32) (x4_6 : Int32) (g_7 : Sg) => (vp_in x2 8 ∧ (vp_in x2 8 ∧ ∀ g_8 : Sg, g_8 = up2 g_7 7 (x2).toNatClampNeg ((x3_5 + x4_6) - (g_7 7 (x2).toNatClampNeg)) → (P g_8))))) n_9 x1 (0 : Int32) (0 : Int32) g)
-- X0_numberOfDigits (I)I, effect 0, room (0, 0)
def wX_numberOfDigits_b9 (P : Int32 → Prop) (tc cl : Int32) (tr : Int64) (g : Sg) (x1 : Int32) (B : Int32 → Int32 → Prop) (x2 : Int32) (x3 : Int32) : Prop :=
  ((x3 < 0 → (P x2)) ∧ (¬ x3 < 0 → (vp_in x3 8 ∧ (∀ x2_1 : Int32, x2_1 = ((x2 * (x1 + (1 : Int32))) + (g 7 (x3).toNatClampNeg)) → (B x2_1 (x3 + (-1)))))))
def wX_numberOfDigits (P : Int32 → Prop) (tc cl : Int32) (tr : Int64) (g : Sg) (x1 : Int32) : Prop :=
  (∀ x3_2 : Int32, x3_2 = (tc - (1 : Int32)) → (∃ n_3, Lp2 (wX_numberOfDigits_b9 P tc cl tr g x1) n_3 (0 : Int32) x3_2))
-- X0_bend (III)I, effect 1, room (3, 67)
def wX_bend (P : Int32 → Sg → Prop) (tc cl : Int32) (tr : Int64) (g : Sg) (x1 : Int32) (x2 : Int32) (x3 : Int32) : Prop :=
  (wX_isThing (fun r_1 => ((r_1 = 0 → (P (-1 : Int32) g)) ∧ (¬ r_1 = 0 → (wX_readFilling (fun r_2 g_3 => ((¬ r_2 = 0 → (wX_flipDigit (fun g_4 => (wX_numberOfDigits (fun r_5 => (P r_5 g_4)) tc cl tr g_4 x1)) tc cl tr g_3 x1 x3)) ∧ (r_2 = 0 → (P (-1 : Int32) g_3)))) tc cl tr g x1 x2)))) tc cl tr g x3)
-- X0_turnDigits (II)V, effect 1, room (2, 46)
def wX_turnDigits_b11 (P : Sg → Prop) (tc cl : Int32) (tr : Int64) (x1 : Int32) (K27 : Sg → Prop) (B : Int32 → Sg → Prop) (x3 : Int32) (g : Sg) : Prop :=
  ((x3 < 0 → (K27 g)) ∧ (¬ x3 < 0 → (wX_flipDigit (fun g_1 => (B (x3 + (-1)) g_1)) tc cl tr g x1 x3)))
def wX_turnDigits_b32 (P : Sg → Prop) (tc cl : Int32) (tr : Int64) (x1 : Int32) (B : Int32 → Sg → Prop) (x3 : Int32) (g : Sg) : Prop :=
  ((cl ≤ x3 → (P g)) ∧ (¬ cl ≤ x3 → (vp_in x3 16 ∧ (wX_flipDigit (fun g_2 => (B (x3 + 1) g_2)) tc cl tr g x1 (g 6 (x3).toNatClampNeg)))))
def wX_turnDigits (P : Sg → Prop) (tc cl : Int32) (tr : Int64) (g : Sg) (x1 : Int32) (x2 : Int32) : Prop :=
  ((¬ x2 = 0 → (∃ n_3, Lp2 (wX_turnDigits_b32 P tc cl tr x1) n_3 (0 : Int32) g)) ∧ (x2 = 0 → (∀ x3_4 : Int32, x3_4 = (tc - (1 : Int32)) → (∃ n_6, Lp2 (wX_turnDigits_b11 P tc cl tr x1 (fun (g_5 : Sg) => (P g_5))) n_6 x3_4 g))))
-- X0_round (III)I, effect 1, room (3, 69)
def wX_round (P : Int32 → Sg → Prop) (tc cl : Int32) (tr : Int64) (g : Sg) (x1 : Int32) (x2 : Int32) (x3 : Int32) : Prop :=
  (wX_isTurnKind (fun r_1 => ((r_1 = 0 → (P (-1 : Int32) g)) ∧ (¬ r_1 = 0 → (wX_readFilling (fun r_2 g_3 => ((¬ r_2 = 0 → (wX_turnDigits (fun g_4 => (wX_numberOfDigits (fun r_5 => (P r_5 g_4)) tc cl tr g_4 x1)) tc cl tr g_3 x1 x3)) ∧ (r_2 = 0 → (P (-1 : Int32) g_3)))) tc cl tr g x1 x2)))) x3)
-- X0_period (III)I, effect 1, room (3, 69)
def wX_period_b21 (P : Int32 → Sg → Prop) (tc cl : Int32) (tr : Int64) (x1 : Int32) (x2 : Int32) (x3 : Int32) (B : Int32 → Sg → Prop) (x4 : Int32) (g : Sg) : Prop :=
  (((1000 : Int32) < x4 → (P (-9 : Int32) g)) ∧ (¬ (1000 : Int32) < x4 → (wX_turnDigits (fun g_1 => (wX_numberOfDigits (fun r_2 => ((¬ r_2 = x2 → (B (x4 + 1) g_1)) ∧ (r_2 = x2 → (P x4 g_1)))) tc cl tr g_1 x1)) tc cl tr g x1 x3)))
def wX_period (P : Int32 → Sg → Prop) (tc cl : Int32) (tr : Int64) (g : Sg) (x1 : Int32) (x2 : Int32) (x3 : Int32) : Prop :=
  (wX_isTurnKind (fun r_3 => ((r_3 = 0 → (P (-1 : Int32) g)) ∧ (¬ r_3 = 0 → (wX_readFilling (fun r_4 g_5 => ((¬ r_4 = 0 → (∃ n_6, Lp2 (wX_period_b21 P tc cl tr x1 x2 x3) n_6 (1 : Int32) g_5)) ∧ (r_4 = 0 → (P (-1 : Int32) g_5)))) tc cl tr g x1 x2)))) x3)
-- X0_countSizes ()V, effect 1, room (3, 63)
def wX_countSizes_b2 (P : Sg → Prop) (tc cl : Int32) (tr : Int64) (K23 : Sg → Prop) (B : Int32 → Sg → Prop) (x1 : Int32) (g : Sg) : Prop :=
  ((tc < x1 → (K23 g)) ∧ (¬ tc < x1 → (vp_in x1 9 ∧ ∀ g_1 : Sg, g_1 = up2 g 8 (x1).toNatClampNeg (0 : Int32) → (B (x1 + 1) g_1))))
def wX_countSizes_b25 (P : Sg → Prop) (tc cl : Int32) (tr : Int64) (B : Int32 → Sg → Prop) (x1 : Int32) (g : Sg) : Prop :=
  (wX_setCount (fun r_2 => ((r_2 ≤ x1 → (P g)) ∧ (¬ r_2 ≤ x1 → (wX_isHeap (fun r_3 => ((r_3 = 0 → (B (x1 + 1) g)) ∧ (¬ r_3 = 0 → (wJ_bitCount (fun r_4 => (vp_in r_4 9 ∧ (vp_in r_4 9 ∧ ∀ g_5 : Sg, g_5 = up2 g 8 (r_4).toNatClampNeg ((g 8 (r_4).toNatClampNeg) + (1 : Int32)) → (B (x1 + 1) g_5)))) x1)))) tc cl tr g x1)))) tc cl tr g)
def wX_countSizes (P : Sg → Prop) (tc cl : Int32) (tr : Int64) (g : Sg) : Prop :=
  (∃ n_8, Lp2 (wX_countSizes_b2 P tc cl tr (fun (g_6 : Sg) => (∃ n_7, Lp2 (wX_countSizes_b25 P tc cl tr) n_7 (0 : Int32) g_6))) n_8 (0 : Int32) g)
-- X0_counts (I)I, effect 1, room (4, 84)
def wX_counts (P : Int32 → Sg → Prop) (tc cl : Int32) (tr : Int64) (g : Sg) (x1 : Int32) : Prop :=
  ((x1 < 0 → (P (-1 : Int32) g)) ∧ (¬ x1 < 0 → ((x1 ≤ tc → (wX_countSizes (fun g_1 => (vp_in x1 9 ∧ (P (g_1 8 (x1).toNatClampNeg) g_1))) tc cl tr g)) ∧ (¬ x1 ≤ tc → (P (-1 : Int32) g)))))
-- X0_sumAtRoot (II)I, effect 1, room (4, 84)
def wX_sumAtRoot_b15 (P : Int32 → Sg → Prop) (tc cl : Int32) (tr : Int64) (x1 : Int32) (x2 : Int32) (K49 : Int32 → Int32 → Sg → Prop) (B : Int32 → Int32 → Int32 → Sg → Prop) (x3 : Int32) (x4 : Int32) (x5 : Int32) (g : Sg) : Prop :=
  ((x5 < 0 → (K49 x3 x4 g)) ∧ (¬ x5 < 0 → (∀ x6_1 : Int32, x6_1 = (x3 + (x2 * x4)) → (vp_in x5 9 ∧ (∀ x3_2 : Int32, x3_2 = ((g 8 (x5).toNatClampNeg) - x4) → (B x3_2 x6_1 (x5 + (-1)) g))))))
def wX_sumAtRoot (P : Int32 → Sg → Prop) (tc cl : Int32) (tr : Int64) (g : Sg) (x1 : Int32) (x2 : Int32) : Prop :=
  (wX_countSizes (fun g_3 => (∃ n_7, Lp4 (wX_sumAtRoot_b15 P tc cl tr x1 x2 (fun (x3_4 : Int32) (x4_5 : Int32) (g_6 : Sg) => ((¬ x1 = (1 : Int32) → ((¬ x1 = (2 : Int32) → ((¬ x4_5 = 0 → (P (-1000000 : Int32) g_6)) ∧ (x4_5 = 0 → (P x3_4 g_6)))) ∧ (x1 = (2 : Int32) → (P (x3_4 - x4_5) g_6)))) ∧ (x1 = (1 : Int32) → (P (x3_4 + x4_5) g_6))))) n_7 (0 : Int32) (0 : Int32) tc g_3)) tc cl tr g)
-- X0_at (I)I, effect 1, room (5, 110)
def wX_at (P : Int32 → Sg → Prop) (tc cl : Int32) (tr : Int64) (g : Sg) (x1 : Int32) : Prop :=
  ((x1 = 1 → (wX_sumAtRoot (fun r_1 g_2 => (P r_1 g_2)) tc cl tr g x1 (2 : Int32))) ∧ (x1 = 2 → (wX_sumAtRoot (fun r_3 g_4 => (P r_3 g_4)) tc cl tr g x1 (-2 : Int32))) ∧ (x1 = 3 → (wX_sumAtRoot (fun r_5 g_6 => (P r_5 g_6)) tc cl tr g x1 (-1 : Int32))) ∧ (x1 = 4 → (wX_sumAtRoot (fun r_7 g_8 => (P r_7 g_8)) tc cl tr g x1 (0 : Int32))) ∧ (x1 = 6 → (wX_sumAtRoot (fun r_9 g_10 => (P r_9 g_10)) tc cl tr g x1 (1 : Int32))) ∧ (¬ x1 = 1 → ¬ x1 = 2 → ¬ x1 = 3 → ¬ x1 = 4 → ¬ x1 = 6 → (P (-1000001 : Int32) g)))
-- X0_stays (II)I, effect 1, room (6, 136)
def wX_stays_b28 (P : Int32 → Sg → Prop) (tc cl : Int32) (tr : Int64) (x2 : Int32) (x3 : Int32) (B : Int32 → Int32 → Sg → Prop) (x4 : Int32) (x5 : Int32) (g : Sg) : Prop :=
  ((x3 ≤ x5 → (P x4 g)) ∧ (¬ x3 ≤ x5 → (vp_in x5 256 ∧ (∀ x6_1 : Int32, x6_1 = (g 11 (x5).toNatClampNeg) → ((x6_1 ≤ 0 → (B x4 (x5 + 1) g)) ∧ (¬ x6_1 ≤ 0 → (¬ x6_1 = 0 ∧ ((¬ (x2 - x2 / x6_1 * x6_1) = 0 → (B x4 (x5 + 1) g)) ∧ ((x2 - x2 / x6_1 * x6_1) = 0 → (∀ x4_2 : Int32, x4_2 = (x4 + x6_1) → (B x4_2 (x5 + 1) g)))))))))))
def wX_stays (P : Int32 → Sg → Prop) (tc cl : Int32) (tr : Int64) (g : Sg) (x1 : Int32) (x2 : Int32) : Prop :=
  (wX_isTurnKind (fun r_3 => ((r_3 = 0 → (P (-1 : Int32) g)) ∧ (¬ r_3 = 0 → (wX_isTurnNumber (fun r_4 => ((¬ r_4 = 0 → (wX_findOrbits (fun r_5 g_6 => (∃ n_7, Lp3 (wX_stays_b28 P tc cl tr x2 r_5) n_7 (0 : Int32) (0 : Int32) g_6)) tc cl tr g x1)) ∧ (r_4 = 0 → (P (-1 : Int32) g)))) x2)))) x1)
-- X0_pairCount ()I, effect 0, room (1, 20)
def wX_pairCount_b4 (P : Int32 → Prop) (tc cl : Int32) (tr : Int64) (g : Sg) (B : Int32 → Int32 → Prop) (x1 : Int32) (x2 : Int32) : Prop :=
  ((tc ≤ x2 → (P x1)) ∧ (¬ tc ≤ x2 → (vp_in x2 8 ∧ (wJ_bitCount (fun r_1 => (∀ x1_2 : Int32, x1_2 = (x1 + r_1) → (B x1_2 (x2 + 1)))) (g 3 (x2).toNatClampNeg)))))
def wX_pairCount (P : Int32 → Prop) (tc cl : Int32) (tr : Int64) (g : Sg) : Prop :=
  (∃ n_3, Lp2 (wX_pairCount_b4 P tc cl tr g) n_3 (0 : Int32) (0 : Int32))
-- X0_count (I)I, effect 0, room (2, 42)
def wX_count (P : Int32 → Prop) (tc cl : Int32) (tr : Int64) (g : Sg) (x1 : Int32) : Prop :=
  ((x1 = 0 → (P tc)) ∧ (x1 = 1 → (P cl)) ∧ (x1 = 2 → (wX_pairCount (fun r_1 => (P r_1)) tc cl tr g)) ∧ (¬ x1 = 0 → ¬ x1 = 1 → ¬ x1 = 2 → (P (-1 : Int32))))
-- X0_trace ()J, effect 0, room (0, 0)
def wX_trace (P : Int64 → Prop) (tc cl : Int32) (tr : Int64) (g : Sg) : Prop :=
  (P tr)
-- X1_in (III)Z, effect 0, room (0, 0)
def wM_in (P : Int32 → Prop) (x0 : Int32) (x1 : Int32) (x2 : Int32) : Prop :=
  ((x0 < x1 → (P (0 : Int32))) ∧ (¬ x0 < x1 → ((x2 < x0 → (P (0 : Int32))) ∧ (¬ x2 < x0 → (P (1 : Int32))))))
-- X1_isThing (I)Z, effect 0, room (1, 22)
def wM_isThing (P : Int32 → Prop) (tc cl : Int32) (tr : Int64) (g : Sg) (x1 : Int32) : Prop :=
  (wM_in (fun r_1 => (isB r_1 ∧ P r_1)) x1 (0 : Int32) (tc - (1 : Int32)))
-- X1_things (I)I, effect 2, room (1, 22)
def wM_things_b29 (P : Int32 → Int32 → Int32 → Int64 → Sg → Prop) (x2 : Int32) (K48 : Int32 → Int32 → Int64 → Sg → Prop) (B : Int32 → Int32 → Int32 → Int64 → Sg → Prop) (x3 : Int32) (tc : Int32) (cl : Int32) (tr : Int64) (g : Sg) : Prop :=
  (((64 : Int32) ≤ x3 → (K48 tc cl tr g)) ∧ (¬ (64 : Int32) ≤ x3 → (vp_in x3 64 ∧ ∀ g_1 : Sg, g_1 = up2 g 1 (x3).toNatClampNeg (vp_nar .boolean (0 : Int32)) → (B (x3 + 1) tc cl tr g_1))))
def wM_things_b50 (P : Int32 → Int32 → Int32 → Int64 → Sg → Prop) (x2 : Int32) (B : Int32 → Int32 → Int32 → Int64 → Sg → Prop) (x3 : Int32) (tc : Int32) (cl : Int32) (tr : Int64) (g : Sg) : Prop :=
  (((8 : Int32) ≤ x3 → (P x2 tc cl tr g)) ∧ (¬ (8 : Int32) ≤ x3 → (vp_in x3 8 ∧ ∀ g_2 : Sg, g_2 = up2 g 2 (x3).toNatClampNeg (0 : Int32) → (B (x3 + 1) tc cl tr g_2))))
def wM_things (P : Int32 → Int32 → Int32 → Int64 → Sg → Prop) (tc cl : Int32) (tr : Int64) (g : Sg) (x1 : Int32) : Prop :=
  (wM_in (fun r_3 => ((¬ r_3 = 0 → (∃ n_9, Lp5 (wM_things_b29 P tc (fun (tc_4 : Int32) (cl_5 : Int32) (tr_6 : Int64) (g_7 : Sg) => (∃ n_8, Lp5 (wM_things_b50 P tc) n_8 (0 : Int32) tc_4 cl_5 tr_6 g_7))) n_9 (0 : Int32) x1 (0 : Int32) tr g)) ∧ (r_3 = 0 → (P (-1 : Int32) tc cl tr g)))) x1 (1 : Int32) (8 : Int32))
-- X1_lay (II)I, effect 1, room (2, 43)
def wM_lay_j148 (P : Int32 → Sg → Prop) (tc cl : Int32) (tr : Int64) (B : Int32 → Sg → Prop) (K155 : Sg → Prop) (x3 : Int32) (x4 : Int32) (x5 : Int32) (y1 : Int32) (y2 : Int32) (g : Sg) : Prop :=
  (vp_in y1 64 ∧ ∀ g_1 : Sg, g_1 = up2 g 1 (y1).toNatClampNeg (vp_nar .boolean y2) → (B (x5 + 1) g_1))
def wM_lay_j147 (P : Int32 → Sg → Prop) (tc cl : Int32) (tr : Int64) (B : Int32 → Sg → Prop) (K155 : Sg → Prop) (x3 : Int32) (x4 : Int32) (x5 : Int32) (y1 : Int32) (g : Sg) : Prop :=
  (wM_lay_j148 P tc cl tr B K155 x3 x4 x5 y1 (0 : Int32) g)
def wM_lay_j143 (P : Int32 → Sg → Prop) (tc cl : Int32) (tr : Int64) (B : Int32 → Sg → Prop) (K155 : Sg → Prop) (x3 : Int32) (x4 : Int32) (x5 : Int32) (y1 : Int32) (g : Sg) : Prop :=
  (wM_lay_j148 P tc cl tr B K155 x3 x4 x5 y1 (1 : Int32) g)
def wM_lay_b76 (P : Int32 → Sg → Prop) (tc cl : Int32) (tr : Int64) (x3 : Int32) (x4 : Int32) (K155 : Sg → Prop) (B : Int32 → Sg → Prop) (x5 : Int32) (g : Sg) : Prop :=
  ((tc ≤ x5 → (K155 g)) ∧ (¬ tc ≤ x5 → (vp_in (((8 : Int32) * x4) + x5) 64 ∧ ((¬ (g 1 ((((8 : Int32) * x4) + x5)).toNatClampNeg) = 0 → (wM_lay_j143 P tc cl tr B K155 x3 x4 x5 (((8 : Int32) * x4) + x5) g)) ∧ ((g 1 ((((8 : Int32) * x4) + x5)).toNatClampNeg) = 0 → (vp_in (((8 : Int32) * x4) + x3) 64 ∧ (((g 1 ((((8 : Int32) * x4) + x3)).toNatClampNeg) = 0 → (wM_lay_j147 P tc cl tr B K155 x3 x4 x5 (((8 : Int32) * x4) + x5) g)) ∧ (¬ (g 1 ((((8 : Int32) * x4) + x3)).toNatClampNeg) = 0 → (vp_in (((8 : Int32) * x3) + x5) 64 ∧ (((g 1 ((((8 : Int32) * x3) + x5)).toNatClampNeg) = 0 → (wM_lay_j147 P tc cl tr B K155 x3 x4 x5 (((8 : Int32) * x4) + x5) g)) ∧ (¬ (g 1 ((((8 : Int32) * x3) + x5)).toNatClampNeg) = 0 → (wM_lay_j143 P tc cl tr B K155 x3 x4 x5 (((8 : Int32) * x4) + x5) g))))))))))))
def wM_lay_b64 (P : Int32 → Sg → Prop) (tc cl : Int32) (tr : Int64) (x3 : Int32) (K161 : Sg → Prop) (B : Int32 → Sg → Prop) (x4 : Int32) (g : Sg) : Prop :=
  ((tc ≤ x4 → (K161 g)) ∧ (¬ tc ≤ x4 → (∃ n_3, Lp2 (wM_lay_b76 P tc cl tr x3 x4 (fun (g_2 : Sg) => (B (x4 + 1) g_2))) n_3 (0 : Int32) g)))
def wM_lay_b53 (P : Int32 → Sg → Prop) (tc cl : Int32) (tr : Int64) (B : Int32 → Sg → Prop) (x3 : Int32) (g : Sg) : Prop :=
  ((tc ≤ x3 → (P (1 : Int32) g)) ∧ (¬ tc ≤ x3 → (∃ n_5, Lp2 (wM_lay_b64 P tc cl tr x3 (fun (g_4 : Sg) => (B (x3 + 1) g_4))) n_5 (0 : Int32) g)))
def wM_lay (P : Int32 → Sg → Prop) (tc cl : Int32) (tr : Int64) (g : Sg) (x1 : Int32) (x2 : Int32) : Prop :=
  (wM_isThing (fun r_6 => ((r_6 = 0 → (P (-1 : Int32) g)) ∧ (¬ r_6 = 0 → (wM_isThing (fun r_7 => ((r_7 = 0 → (P (-1 : Int32) g)) ∧ (¬ r_7 = 0 → ((x1 < x2 → (vp_in (((8 : Int32) * x1) + x2) 64 ∧ (((g 1 ((((8 : Int32) * x1) + x2)).toNatClampNeg) = 0 → (vp_in (((8 : Int32) * x1) + x2) 64 ∧ ∀ g_8 : Sg, g_8 = up2 g 1 ((((8 : Int32) * x1) + x2)).toNatClampNeg (vp_nar .boolean (1 : Int32)) → (∃ n_9, Lp2 (wM_lay_b53 P tc cl tr) n_9 (0 : Int32) g_8))) ∧ (¬ (g 1 ((((8 : Int32) * x1) + x2)).toNatClampNeg) = 0 → (P (0 : Int32) g))))) ∧ (¬ x1 < x2 → (P (-1 : Int32) g)))))) tc cl tr g x2)))) tc cl tr g x1)
-- X1_below (II)I, effect 0, room (2, 43)
def wM_below_j16 (P : Int32 → Prop) (tc cl : Int32) (tr : Int64) (g : Sg) : Prop :=
  (P (-1 : Int32))
def wM_below (P : Int32 → Prop) (tc cl : Int32) (tr : Int64) (g : Sg) (x1 : Int32) (x2 : Int32) : Prop :=
  (wM_isThing (fun r_1 => ((r_1 = 0 → (wM_below_j16 P tc cl tr g)) ∧ (¬ r_1 = 0 → (wM_isThing (fun r_2 => ((¬ r_2 = 0 → (vp_in (((8 : Int32) * x1) + x2) 64 ∧ (((g 1 ((((8 : Int32) * x1) + x2)).toNatClampNeg) = 0 → (P (0 : Int32))) ∧ (¬ (g 1 ((((8 : Int32) * x1) + x2)).toNatClampNeg) = 0 → (P (1 : Int32)))))) ∧ (r_2 = 0 → (wM_below_j16 P tc cl tr g)))) tc cl tr g x2)))) tc cl tr g x1)
-- X1_weight (II)I, effect 1, room (2, 43)
def wM_weight (P : Int32 → Sg → Prop) (tc cl : Int32) (tr : Int64) (g : Sg) (x1 : Int32) (x2 : Int32) : Prop :=
  (wM_isThing (fun r_1 => ((r_1 = 0 → (P (-1000000 : Int32) g)) ∧ (¬ r_1 = 0 → (wM_in (fun r_2 => ((¬ r_2 = 0 → (vp_in x1 8 ∧ (∀ x3_3 : Int32, x3_3 = (g 2 (x1).toNatClampNeg) → (vp_in x1 8 ∧ ∀ g_4 : Sg, g_4 = up2 g 2 (x1).toNatClampNeg x2 → (P x3_3 g_4))))) ∧ (r_2 = 0 → (P (-1000000 : Int32) g)))) x2 (-9 : Int32) (9 : Int32))))) tc cl tr g x1)
-- X1_say (I)I, effect 2, room (2, 43)
def wM_say (P : Int32 → Int32 → Int32 → Int64 → Sg → Prop) (tc cl : Int32) (tr : Int64) (g : Sg) (x1 : Int32) : Prop :=
  (wM_isThing (fun r_1 => ((¬ r_1 = 0 → ((¬ cl = (16 : Int32) → (vp_in cl 16 ∧ ∀ g_2 : Sg, g_2 = up2 g 3 (cl).toNatClampNeg x1 → (∀ cl_3 : Int32, cl_3 = (cl + (1 : Int32)) → (P cl_3 tc cl_3 tr g_2)))) ∧ (cl = (16 : Int32) → (P (-3 : Int32) tc cl tr g)))) ∧ (r_1 = 0 → (P (-1 : Int32) tc cl tr g)))) tc cl tr g x1)
-- X1_hush ()I, effect 2, room (0, 0)
def wM_hush (P : Int32 → Int32 → Int32 → Int64 → Sg → Prop) (tc cl : Int32) (tr : Int64) (g : Sg) : Prop :=
  (P cl tc (0 : Int32) tr g)
-- X1_has (II)Z, effect 0, room (0, 0)
def wM_has (P : Int32 → Prop) (x0 : Int32) (x1 : Int32) : Prop :=
  ((¬ ((x0 >>> (x1 &&& 31)) &&& (1 : Int32)) = (1 : Int32) → (P (0 : Int32))) ∧ (((x0 >>> (x1 &&& 31)) &&& (1 : Int32)) = (1 : Int32) → (P (1 : Int32))))
-- X1_isHeap (I)Z, effect 0, room (1, 22)
def wM_isHeap_j82 (P : Int32 → Prop) (tc cl : Int32) (tr : Int64) (g : Sg) (B : Int32 → Int32 → Prop) (K90 : Int32 → Prop) (x1 : Int32) (x3 : Int32) (x4 : Int32) : Prop :=
  (B (0 : Int32) (x4 + 1))
def wM_isHeap_j78 (P : Int32 → Prop) (tc cl : Int32) (tr : Int64) (g : Sg) (B : Int32 → Int32 → Prop) (K90 : Int32 → Prop) (x1 : Int32) (x3 : Int32) (x4 : Int32) : Prop :=
  (B (1 : Int32) (x4 + 1))
def wM_isHeap_b33 (P : Int32 → Prop) (tc cl : Int32) (tr : Int64) (g : Sg) (x1 : Int32) (x3 : Int32) (K90 : Int32 → Prop) (B : Int32 → Int32 → Prop) (x2 : Int32) (x4 : Int32) : Prop :=
  ((tc ≤ x4 → (K90 x2)) ∧ (¬ tc ≤ x4 → ((x2 = 0 → (wM_isHeap_j82 P tc cl tr g B K90 x1 x3 x4)) ∧ (¬ x2 = 0 → (vp_in (((8 : Int32) * x3) + x4) 64 ∧ (((g 1 ((((8 : Int32) * x3) + x4)).toNatClampNeg) = 0 → (wM_isHeap_j78 P tc cl tr g B K90 x1 x3 x4)) ∧ (¬ (g 1 ((((8 : Int32) * x3) + x4)).toNatClampNeg) = 0 → (wM_has (fun r_1 => ((r_1 = 0 → (wM_isHeap_j78 P tc cl tr g B K90 x1 x3 x4)) ∧ (¬ r_1 = 0 → (wM_has (fun r_2 => ((r_2 = 0 → (wM_isHeap_j82 P tc cl tr g B K90 x1 x3 x4)) ∧ (¬ r_2 = 0 → (wM_isHeap_j78 P tc cl tr g B K90 x1 x3 x4)))) x1 x3)))) x1 x4))))))))
def wM_isHeap_b22 (P : Int32 → Prop) (tc cl : Int32) (tr : Int64) (g : Sg) (x1 : Int32) (B : Int32 → Int32 → Prop) (x2 : Int32) (x3 : Int32) : Prop :=
  ((tc ≤ x3 → (isB x2 ∧ P x2)) ∧ (¬ tc ≤ x3 → (∃ n_4, Lp2 (wM_isHeap_b33 P tc cl tr g x1 x3 (fun (x2_3 : Int32) => (B x2_3 (x3 + 1)))) n_4 x2 (0 : Int32))))
def wM_isHeap (P : Int32 → Prop) (tc cl : Int32) (tr : Int64) (g : Sg) (x1 : Int32) : Prop :=
  (wM_in (fun r_5 => ((¬ r_5 = 0 → (∃ n_6, Lp2 (wM_isHeap_b22 P tc cl tr g x1) n_6 (1 : Int32) (0 : Int32))) ∧ (r_5 = 0 → (P (0 : Int32))))) x1 (0 : Int32) (((1 : Int32) <<< (tc &&& 31)) - (1 : Int32)))
-- X1_heap (I)I, effect 0, room (2, 46)
def wM_heap (P : Int32 → Prop) (tc cl : Int32) (tr : Int64) (g : Sg) (x1 : Int32) : Prop :=
  (wM_in (fun r_1 => ((¬ r_1 = 0 → (wM_isHeap (fun r_2 => ((r_2 = 0 → (P (0 : Int32))) ∧ (¬ r_2 = 0 → (P (1 : Int32))))) tc cl tr g x1)) ∧ (r_1 = 0 → (P (-1 : Int32))))) x1 (0 : Int32) (((1 : Int32) <<< (tc &&& 31)) - (1 : Int32)))
-- X1_many ()I, effect 0, room (2, 46)
def wM_many_j28 (P : Int32 → Prop) (tc cl : Int32) (tr : Int64) (g : Sg) (B : Int32 → Int32 → Prop) (x2 : Int32) (y0 : Int32) (y1 : Int32) : Prop :=
  (∀ x1_1 : Int32, x1_1 = (y0 + y1) → (B x1_1 (x2 + 1)))
def wM_many_b4 (P : Int32 → Prop) (tc cl : Int32) (tr : Int64) (g : Sg) (B : Int32 → Int32 → Prop) (x1 : Int32) (x2 : Int32) : Prop :=
  ((((1 : Int32) <<< (tc &&& 31)) ≤ x2 → (P x1)) ∧ (¬ ((1 : Int32) <<< (tc &&& 31)) ≤ x2 → (wM_isHeap (fun r_2 => ((r_2 = 0 → (wM_many_j28 P tc cl tr g B x2 x1 (0 : Int32))) ∧ (¬ r_2 = 0 → (wM_many_j28 P tc cl tr g B x2 x1 (1 : Int32))))) tc cl tr g x2)))
def wM_many (P : Int32 → Prop) (tc cl : Int32) (tr : Int64) (g : Sg) : Prop :=
  (∃ n_3, Lp2 (wM_many_b4 P tc cl tr g) n_3 (0 : Int32) (0 : Int32))
-- X1_flipped (II)I, effect 0, room (2, 46)
def wM_flipped (P : Int32 → Prop) (tc cl : Int32) (tr : Int64) (g : Sg) (x1 : Int32) (x2 : Int32) : Prop :=
  (∀ x3_1 : Int32, x3_1 = (x1 ^^^ ((1 : Int32) <<< (x2 &&& 31))) → (wM_isHeap (fun r_2 => ((r_2 = 0 → (P x1)) ∧ (¬ r_2 = 0 → (P x3_1)))) tc cl tr g x3_1))
-- X1_flip (II)I, effect 0, room (3, 69)
def wM_flip (P : Int32 → Prop) (tc cl : Int32) (tr : Int64) (g : Sg) (x1 : Int32) (x2 : Int32) : Prop :=
  (wM_isHeap (fun r_1 => ((r_1 = 0 → (P (-1 : Int32))) ∧ (¬ r_1 = 0 → (wM_isThing (fun r_2 => ((r_2 = 0 → (P (-1 : Int32))) ∧ (¬ r_2 = 0 → (wM_flipped (fun r_3 => (P r_3)) tc cl tr g x1 x2)))) tc cl tr g x2)))) tc cl tr g x1)
-- X1_turned (II)I, effect 0, room (3, 69)
def wM_turned_b10 (P : Int32 → Prop) (tc cl : Int32) (tr : Int64) (g : Sg) (B : Int32 → Int32 → Prop) (x3 : Int32) (x4 : Int32) : Prop :=
  ((cl ≤ x4 → (P x3)) ∧ (¬ cl ≤ x4 → (vp_in x4 16 ∧ (wM_flipped (fun r_1 => (B r_1 (x4 + 1))) tc cl tr g x3 (g 3 (x4).toNatClampNeg)))))
def wM_turned_j152 (P : Int32 → Prop) (tc cl : Int32) (tr : Int64) (g : Sg) (B : Int32 → Int32 → Int32 → Prop) (K161 : Int32 → Int32 → Prop) (x1 : Int32) (x4 : Int32) (x5 : Int32) (x6 : Int32) (x8 : Int32) (y0 : Int32) (y1 : Int32) : Prop :=
  (∀ x7_2 : Int32, x7_2 = (y0 ||| y1) → (B x6 x7_2 (x8 + 1)))
def wM_turned_j124 (P : Int32 → Prop) (tc cl : Int32) (tr : Int64) (g : Sg) (B : Int32 → Int32 → Int32 → Prop) (K161 : Int32 → Int32 → Prop) (x1 : Int32) (x4 : Int32) (x5 : Int32) (x7 : Int32) (x8 : Int32) (y0 : Int32) : Prop :=
  (vp_in (((8 : Int32) * x8) + x5) 64 ∧ (((g 1 ((((8 : Int32) * x8) + x5)).toNatClampNeg) = 0 → (wM_turned_j152 P tc cl tr g B K161 x1 x4 x5 y0 x8 x7 (0 : Int32))) ∧ (¬ (g 1 ((((8 : Int32) * x8) + x5)).toNatClampNeg) = 0 → (wM_turned_j152 P tc cl tr g B K161 x1 x4 x5 y0 x8 x7 ((1 : Int32) <<< (x8 &&& 31))))))
def wM_turned_j123 (P : Int32 → Prop) (tc cl : Int32) (tr : Int64) (g : Sg) (B : Int32 → Int32 → Int32 → Prop) (K161 : Int32 → Int32 → Prop) (x1 : Int32) (x4 : Int32) (x5 : Int32) (x7 : Int32) (x8 : Int32) : Prop :=
  (wM_turned_j124 P tc cl tr g B K161 x1 x4 x5 x7 x8 (0 : Int32))
def wM_turned_j119 (P : Int32 → Prop) (tc cl : Int32) (tr : Int64) (g : Sg) (B : Int32 → Int32 → Int32 → Prop) (K161 : Int32 → Int32 → Prop) (x1 : Int32) (x4 : Int32) (x5 : Int32) (x7 : Int32) (x8 : Int32) : Prop :=
  (wM_turned_j124 P tc cl tr g B K161 x1 x4 x5 x7 x8 (1 : Int32))
def wM_turned_b80 (P : Int32 → Prop) (tc cl : Int32) (tr : Int64) (g : Sg) (x1 : Int32) (x4 : Int32) (x5 : Int32) (K161 : Int32 → Int32 → Prop) (B : Int32 → Int32 → Int32 → Prop) (x6 : Int32) (x7 : Int32) (x8 : Int32) : Prop :=
  ((tc ≤ x8 → (K161 x6 x7)) ∧ (¬ tc ≤ x8 → ((x6 = 0 → (wM_turned_j123 P tc cl tr g B K161 x1 x4 x5 x7 x8)) ∧ (¬ x6 = 0 → (vp_in (((8 : Int32) * x8) + x5) 64 ∧ (((g 1 ((((8 : Int32) * x8) + x5)).toNatClampNeg) = 0 → (wM_turned_j119 P tc cl tr g B K161 x1 x4 x5 x7 x8)) ∧ (¬ (g 1 ((((8 : Int32) * x8) + x5)).toNatClampNeg) = 0 → (wM_has (fun r_3 => ((r_3 = 0 → (wM_turned_j123 P tc cl tr g B K161 x1 x4 x5 x7 x8)) ∧ (¬ r_3 = 0 → (wM_turned_j119 P tc cl tr g B K161 x1 x4 x5 x7 x8)))) x1 x8))))))))
def wM_turned_j174 (P : Int32 → Prop) (tc cl : Int32) (tr : Int64) (g : Sg) (B : Int32 → Int32 → Prop) (x1 : Int32) (x5 : Int32) (y0 : Int32) (y1 : Int32) : Prop :=
  (∀ x4_4 : Int32, x4_4 = (y0 ||| y1) → (B x4_4 (x5 + 1)))
def wM_turned_j69 (P : Int32 → Prop) (tc cl : Int32) (tr : Int64) (g : Sg) (B : Int32 → Int32 → Prop) (x1 : Int32) (x4 : Int32) (x5 : Int32) (y0 : Int32) : Prop :=
  (∀ x7_5 : Int32, x7_5 = ((1 : Int32) <<< (x5 &&& 31)) → (∃ n_8, Lp3 (wM_turned_b80 P tc cl tr g x1 x4 x5 (fun (x6_6 : Int32) (x7_7 : Int32) => ((x6_6 = 0 → (wM_turned_j174 P tc cl tr g B x1 x5 x4 (0 : Int32))) ∧ (¬ x6_6 = 0 → (wM_turned_j174 P tc cl tr g B x1 x5 x4 x7_7))))) n_8 y0 x7_5 (0 : Int32)))
def wM_turned_b46 (P : Int32 → Prop) (tc cl : Int32) (tr : Int64) (g : Sg) (x1 : Int32) (B : Int32 → Int32 → Prop) (x4 : Int32) (x5 : Int32) : Prop :=
  ((tc ≤ x5 → (P x4)) ∧ (¬ tc ≤ x5 → (wM_has (fun r_9 => ((¬ r_9 = 0 → (wM_turned_j69 P tc cl tr g B x1 x4 x5 (0 : Int32))) ∧ (r_9 = 0 → (wM_turned_j69 P tc cl tr g B x1 x4 x5 (1 : Int32))))) x1 x5)))
def wM_turned (P : Int32 → Prop) (tc cl : Int32) (tr : Int64) (g : Sg) (x1 : Int32) (x2 : Int32) : Prop :=
  ((¬ x2 = (1 : Int32) → (∃ n_10, Lp2 (wM_turned_b46 P tc cl tr g x1) n_10 (0 : Int32) (0 : Int32))) ∧ (x2 = (1 : Int32) → (∃ n_11, Lp2 (wM_turned_b10 P tc cl tr g) n_11 x1 (0 : Int32))))
-- X1_isKind (I)Z, effect 0, room (1, 22)
def wM_isKind (P : Int32 → Prop) (x0 : Int32) : Prop :=
  (wM_in (fun r_1 => (isB r_1 ∧ P r_1)) x0 (0 : Int32) (1 : Int32))
-- X1_turn (III)I, effect 0, room (4, 97)
def wM_turn_b34 (P : Int32 → Prop) (tc cl : Int32) (tr : Int64) (g : Sg) (x2 : Int32) (x3 : Int32) (B : Int32 → Int32 → Prop) (x4 : Int32) (x5 : Int32) : Prop :=
  ((x3 ≤ x5 → (P x4)) ∧ (¬ x3 ≤ x5 → (wM_turned (fun r_1 => (B r_1 (x5 + 1))) tc cl tr g x4 x2)))
def wM_turn (P : Int32 → Prop) (tc cl : Int32) (tr : Int64) (g : Sg) (x1 : Int32) (x2 : Int32) (x3 : Int32) : Prop :=
  (wM_isHeap (fun r_2 => ((r_2 = 0 → (P (-1 : Int32))) ∧ (¬ r_2 = 0 → (wM_isKind (fun r_3 => ((r_3 = 0 → (P (-1 : Int32))) ∧ (¬ r_3 = 0 → (wM_in (fun r_4 => ((¬ r_4 = 0 → (∃ n_5, Lp2 (wM_turn_b34 P tc cl tr g x2 x3) n_5 x1 (0 : Int32))) ∧ (r_4 = 0 → (P (-1 : Int32))))) x3 (0 : Int32) (1000 : Int32))))) x2)))) tc cl tr g x1)
-- X1_orbitOf (II)I, effect 0, room (4, 97)
def wM_orbitOf_b10 (P : Int32 → Prop) (tc cl : Int32) (tr : Int64) (g : Sg) (x1 : Int32) (x2 : Int32) (B : Int32 → Int32 → Prop) (x3 : Int32) (x4 : Int32) : Prop :=
  ((x4 = x1 → (P x3)) ∧ (¬ x4 = x1 → (wM_turned (fun r_1 => (B (x3 + 1) r_1)) tc cl tr g x4 x2)))
def wM_orbitOf (P : Int32 → Prop) (tc cl : Int32) (tr : Int64) (g : Sg) (x1 : Int32) (x2 : Int32) : Prop :=
  (wM_turned (fun r_2 => (∃ n_3, Lp2 (wM_orbitOf_b10 P tc cl tr g x1 x2) n_3 (1 : Int32) r_2)) tc cl tr g x1 x2)
-- X1_orbit (II)I, effect 0, room (5, 121)
def wM_orbit (P : Int32 → Prop) (tc cl : Int32) (tr : Int64) (g : Sg) (x1 : Int32) (x2 : Int32) : Prop :=
  (wM_isHeap (fun r_1 => ((r_1 = 0 → (P (-1 : Int32))) ∧ (¬ r_1 = 0 → (wM_isKind (fun r_2 => ((r_2 = 0 → (P (-1 : Int32))) ∧ (¬ r_2 = 0 → (wM_orbitOf (fun r_3 => (P r_3)) tc cl tr g x1 x2)))) x2)))) tc cl tr g x1)
-- X1_common (JJ)J, effect 0, room (0, 0)
def wM_common_b17 (P : Int64 → Prop) (B : Int64 → Int64 → Prop) (x4 : Int64) (x6 : Int64) : Prop :=
  (((lg_cmp x6 (0 : Int64)) = 0 → (P x4)) ∧ (¬ (lg_cmp x6 (0 : Int64)) = 0 → (¬ x6 = 0 ∧ (∀ x8_1 : Int64, x8_1 = (x4 - x4 / x6 * x6) → (B x6 x8_1)))))
def wM_common_j12 (P : Int64 → Prop) (x2 : Int64) (y0 : Int64) : Prop :=
  (∃ n_2, Lp2 (wM_common_b17 P) n_2 y0 x2)
def wM_common (P : Int64 → Prop) (x0 : Int64) (x2 : Int64) : Prop :=
  ((0 ≤ (lg_cmp x0 (0 : Int64)) → (wM_common_j12 P x2 x0)) ∧ (¬ 0 ≤ (lg_cmp x0 (0 : Int64)) → (wM_common_j12 P x2 (-x0))))
-- X1_orbits (II)I, effect 1, room (4, 97)
def wM_orbits_b20 (P : Int32 → Sg → Prop) (tc cl : Int32) (tr : Int64) (x1 : Int32) (x2 : Int32) (K40 : Sg → Prop) (B : Int32 → Sg → Prop) (x3 : Int32) (g : Sg) : Prop :=
  (((256 : Int32) ≤ x3 → (K40 g)) ∧ (¬ (256 : Int32) ≤ x3 → (vp_in x3 256 ∧ ∀ g_1 : Sg, g_1 = up2 g 6 (x3).toNatClampNeg (vp_nar .boolean (0 : Int32)) → (B (x3 + 1) g_1))))
def wM_orbits_b88 (P : Int32 → Sg → Prop) (tc cl : Int32) (tr : Int64) (x1 : Int32) (x2 : Int32) (x3 : Int32) (x4 : Int32) (x5 : Int64) (x7 : Int32) (K121 : Int32 → Sg → Prop) (B : Int32 → Int32 → Sg → Prop) (x8 : Int32) (x9 : Int32) (g : Sg) : Prop :=
  (vp_in x9 256 ∧ ((¬ (g 6 (x9).toNatClampNeg) = 0 → (K121 x8 g)) ∧ ((g 6 (x9).toNatClampNeg) = 0 → (vp_in x9 256 ∧ ∀ g_2 : Sg, g_2 = up2 g 6 (x9).toNatClampNeg (vp_nar .boolean (1 : Int32)) → (wM_turned (fun r_3 => (B (x8 + 1) r_3 g_2)) tc cl tr g_2 x9 x1)))))
def wM_orbits_j169 (P : Int32 → Sg → Prop) (tc cl : Int32) (tr : Int64) (B : Int32 → Int32 → Int64 → Int32 → Sg → Prop) (K177 : Int32 → Int32 → Int64 → Sg → Prop) (x1 : Int32) (x2 : Int32) (x3 : Int32) (x4 : Int32) (x7 : Int32) (y0 : Int64) (g : Sg) : Prop :=
  (B x3 x4 y0 (x7 + 1) g)
def wM_orbits_j138 (P : Int32 → Sg → Prop) (tc cl : Int32) (tr : Int64) (B : Int32 → Int32 → Int64 → Int32 → Sg → Prop) (K177 : Int32 → Int32 → Int64 → Sg → Prop) (x1 : Int32) (x2 : Int32) (x3 : Int32) (x5 : Int64) (x7 : Int32) (x8 : Int32) (y0 : Int32) (g : Sg) : Prop :=
  (((lg_cmp x5 (1000000000 : Int64)) ≤ 0 → (wM_common (fun r_4 => (¬ r_4 = 0 ∧ (wM_orbits_j169 P tc cl tr B K177 x1 x2 x3 y0 x7 ((x5 / r_4) * (Int32.toInt64 x8)) g))) x5 (Int32.toInt64 x8))) ∧ (¬ (lg_cmp x5 (1000000000 : Int64)) ≤ 0 → (wM_orbits_j169 P tc cl tr B K177 x1 x2 x3 y0 x7 x5 g)))
def wM_orbits_b51 (P : Int32 → Sg → Prop) (tc cl : Int32) (tr : Int64) (x1 : Int32) (x2 : Int32) (K177 : Int32 → Int32 → Int64 → Sg → Prop) (B : Int32 → Int32 → Int64 → Int32 → Sg → Prop) (x3 : Int32) (x4 : Int32) (x5 : Int64) (x7 : Int32) (g : Sg) : Prop :=
  ((((1 : Int32) <<< (tc &&& 31)) ≤ x7 → (K177 x3 x4 x5 g)) ∧ (¬ ((1 : Int32) <<< (tc &&& 31)) ≤ x7 → (wM_isHeap (fun r_5 => ((r_5 = 0 → (B x3 x4 x5 (x7 + 1) g)) ∧ (¬ r_5 = 0 → (vp_in x7 256 ∧ ((¬ (g 6 (x7).toNatClampNeg) = 0 → (B x3 x4 x5 (x7 + 1) g)) ∧ ((g 6 (x7).toNatClampNeg) = 0 → (∃ n_8, Lp3 (wM_orbits_b88 P tc cl tr x1 x2 x3 x4 x5 x7 (fun (x8_6 : Int32) (g_7 : Sg) => ((x8_6 ≤ x4 → (wM_orbits_j138 P tc cl tr B K177 x1 x2 (x3 + 1) x5 x7 x8_6 x4 g_7)) ∧ (¬ x8_6 ≤ x4 → (wM_orbits_j138 P tc cl tr B K177 x1 x2 (x3 + 1) x5 x7 x8_6 x8_6 g_7))))) n_8 (0 : Int32) x7 g))))))) tc cl tr g x7)))
def wM_orbits (P : Int32 → Sg → Prop) (tc cl : Int32) (tr : Int64) (g : Sg) (x1 : Int32) (x2 : Int32) : Prop :=
  (wM_isKind (fun r_9 => ((r_9 = 0 → (P (-1 : Int32) g)) ∧ (¬ r_9 = 0 → (wM_in (fun r_10 => ((¬ r_10 = 0 → (∃ n_17, Lp2 (wM_orbits_b20 P tc cl tr x1 x2 (fun (g_11 : Sg) => (∃ n_16, Lp5 (wM_orbits_b51 P tc cl tr x1 x2 (fun (x3_12 : Int32) (x4_13 : Int32) (x5_14 : Int64) (g_15 : Sg) => ((¬ x2 = 0 → ((¬ x2 = (2 : Int32) → (((lg_cmp x5_14 (1000000000 : Int64)) ≤ 0 → (P (Int64.toInt32 x5_14) g_15)) ∧ (¬ (lg_cmp x5_14 (1000000000 : Int64)) ≤ 0 → (P (-9 : Int32) g_15)))) ∧ (x2 = (2 : Int32) → (P x4_13 g_15)))) ∧ (x2 = 0 → (P x3_12 g_15))))) n_16 (0 : Int32) (0 : Int32) (1 : Int64) (0 : Int32) g_11))) n_17 (0 : Int32) g)) ∧ (r_10 = 0 → (P (-1 : Int32) g)))) x2 (0 : Int32) (2 : Int32))))) x1)
-- X1_measureOf (II)I, effect 0, room (1, 21)
def wM_measureOf_j72 (P : Int32 → Prop) (tc cl : Int32) (tr : Int64) (g : Sg) (B : Int32 → Int32 → Prop) (K81 : Int32 → Prop) (x1 : Int32) (x2 : Int32) (x3 : Int32) (x4 : Int32) (x6 : Int32) : Prop :=
  (B (0 : Int32) (x6 + 1))
def wM_measureOf_j68 (P : Int32 → Prop) (tc cl : Int32) (tr : Int64) (g : Sg) (B : Int32 → Int32 → Prop) (K81 : Int32 → Prop) (x1 : Int32) (x2 : Int32) (x3 : Int32) (x4 : Int32) (x6 : Int32) : Prop :=
  (B (1 : Int32) (x6 + 1))
def wM_measureOf_b29 (P : Int32 → Prop) (tc cl : Int32) (tr : Int64) (g : Sg) (x1 : Int32) (x2 : Int32) (x3 : Int32) (x4 : Int32) (K81 : Int32 → Prop) (B : Int32 → Int32 → Prop) (x5 : Int32) (x6 : Int32) : Prop :=
  ((tc ≤ x6 → (K81 x5)) ∧ (¬ tc ≤ x6 → ((x5 = 0 → (wM_measureOf_j72 P tc cl tr g B K81 x1 x2 x3 x4 x6)) ∧ (¬ x5 = 0 → (vp_in (((8 : Int32) * x4) + x6) 64 ∧ (((g 1 ((((8 : Int32) * x4) + x6)).toNatClampNeg) = 0 → (wM_measureOf_j68 P tc cl tr g B K81 x1 x2 x3 x4 x6)) ∧ (¬ (g 1 ((((8 : Int32) * x4) + x6)).toNatClampNeg) = 0 → (wM_has (fun r_1 => ((¬ r_1 = 0 → (wM_measureOf_j72 P tc cl tr g B K81 x1 x2 x3 x4 x6)) ∧ (r_1 = 0 → (wM_measureOf_j68 P tc cl tr g B K81 x1 x2 x3 x4 x6)))) x2 x6))))))))
def wM_measureOf_j114 (P : Int32 → Prop) (tc cl : Int32) (tr : Int64) (g : Sg) (B : Int32 → Int32 → Prop) (x1 : Int32) (x2 : Int32) (x4 : Int32) (y0 : Int32) (y1 : Int32) (y2 : Int32) : Prop :=
  (∀ x3_2 : Int32, x3_2 = (y0 + (y1 + y2)) → (B x3_2 (x4 + 1)))
def wM_measureOf_j113 (P : Int32 → Prop) (tc cl : Int32) (tr : Int64) (g : Sg) (B : Int32 → Int32 → Prop) (x1 : Int32) (x2 : Int32) (x4 : Int32) (y0 : Int32) (y1 : Int32) : Prop :=
  (wM_measureOf_j114 P tc cl tr g B x1 x2 x4 y0 y1 (0 : Int32))
def wM_measureOf_j98 (P : Int32 → Prop) (tc cl : Int32) (tr : Int64) (g : Sg) (B : Int32 → Int32 → Prop) (x1 : Int32) (x2 : Int32) (x4 : Int32) (x5 : Int32) (y0 : Int32) (y1 : Int32) (y2 : Int32) : Prop :=
  ((¬ x1 = (2 : Int32) → (wM_measureOf_j113 P tc cl tr g B x1 x2 x4 y0 (y1 + y2))) ∧ (x1 = (2 : Int32) → ((x5 = 0 → (wM_measureOf_j113 P tc cl tr g B x1 x2 x4 y0 (y1 + y2))) ∧ (¬ x5 = 0 → (wM_measureOf_j114 P tc cl tr g B x1 x2 x4 y0 (y1 + y2) (1 : Int32))))))
def wM_measureOf_b5 (P : Int32 → Prop) (tc cl : Int32) (tr : Int64) (g : Sg) (x1 : Int32) (x2 : Int32) (B : Int32 → Int32 → Prop) (x3 : Int32) (x4 : Int32) : Prop :=
  ((tc ≤ x4 → (P x3)) ∧ (¬ tc ≤ x4 → (wM_has (fun r_3 => ((r_3 = 0 → (B x3 (x4 + 1))) ∧ (¬ r_3 = 0 → (∃ n_5, Lp2 (wM_measureOf_b29 P tc cl tr g x1 x2 x3 x4 (fun (x5_4 : Int32) => ((x1 ≤ 0 → (wM_measureOf_j98 P tc cl tr g B x1 x2 x4 x5_4 x3 (1 : Int32) (0 : Int32))) ∧ (¬ x1 ≤ 0 → (vp_in x4 8 ∧ (wM_measureOf_j98 P tc cl tr g B x1 x2 x4 x5_4 x3 (1 : Int32) (g 2 (x4).toNatClampNeg))))))) n_5 (1 : Int32) (0 : Int32))))) x2 x4)))
def wM_measureOf (P : Int32 → Prop) (tc cl : Int32) (tr : Int64) (g : Sg) (x1 : Int32) (x2 : Int32) : Prop :=
  (∃ n_6, Lp2 (wM_measureOf_b5 P tc cl tr g x1 x2) n_6 (0 : Int32) (0 : Int32))
-- X1_measure (II)I, effect 2, room (2, 47)
def wM_measure_j47 (P : Int32 → Int32 → Int32 → Int64 → Sg → Prop) (x1 : Int32) (x2 : Int32) (y1 : Int64) (y2 : Int64) (tc : Int32) (cl : Int32) (tr : Int64) (g : Sg) : Prop :=
  (∀ tr_1 : Int64, tr_1 = (y1 + y2) → (wM_measureOf (fun r_2 => (P r_2 tc cl tr_1 g)) tc cl tr_1 g x1 x2))
def wM_measure (P : Int32 → Int32 → Int32 → Int64 → Sg → Prop) (tc cl : Int32) (tr : Int64) (g : Sg) (x1 : Int32) (x2 : Int32) : Prop :=
  (wM_in (fun r_3 => ((r_3 = 0 → (P (-1000000 : Int32) tc cl tr g)) ∧ (¬ r_3 = 0 → (wM_isHeap (fun r_4 => ((¬ r_4 = 0 → ((¬ x1 = 0 → ((¬ x1 = (1 : Int32) → (wM_measure_j47 P x1 x2 tr (111 : Int64) tc cl tr g)) ∧ (x1 = (1 : Int32) → (wM_measure_j47 P x1 x2 tr (11 : Int64) tc cl tr g)))) ∧ (x1 = 0 → (wM_measure_j47 P x1 x2 tr (1 : Int64) tc cl tr g)))) ∧ (r_4 = 0 → (P (-1000000 : Int32) tc cl tr g)))) tc cl tr g x2)))) x1 (0 : Int32) (2 : Int32))
-- X1_sumOf (III)I, effect 0, room (4, 97)
def wM_sumOf_b16 (P : Int32 → Prop) (tc cl : Int32) (tr : Int64) (g : Sg) (x1 : Int32) (x2 : Int32) (x3 : Int32) (B : Int32 → Int32 → Prop) (x4 : Int32) (x5 : Int32) : Prop :=
  ((x5 = x1 → (P x4)) ∧ (¬ x5 = x1 → (wM_measureOf (fun r_1 => (∀ x4_2 : Int32, x4_2 = (x4 + r_1) → (wM_turned (fun r_3 => (B x4_2 r_3)) tc cl tr g x5 x2))) tc cl tr g x3 x5)))
def wM_sumOf (P : Int32 → Prop) (tc cl : Int32) (tr : Int64) (g : Sg) (x1 : Int32) (x2 : Int32) (x3 : Int32) : Prop :=
  (wM_measureOf (fun r_4 => (wM_turned (fun r_5 => (∃ n_6, Lp2 (wM_sumOf_b16 P tc cl tr g x1 x2 x3) n_6 r_4 r_5)) tc cl tr g x1 x2)) tc cl tr g x3 x1)
-- X1_mean (IIII)I, effect 0, room (5, 122)
def wM_mean (P : Int32 → Prop) (tc cl : Int32) (tr : Int64) (g : Sg) (x1 : Int32) (x2 : Int32) (x3 : Int32) (x4 : Int32) : Prop :=
  (wM_isHeap (fun r_1 => ((r_1 = 0 → (P (-1000000 : Int32))) ∧ (¬ r_1 = 0 → (wM_isKind (fun r_2 => ((r_2 = 0 → (P (-1000000 : Int32))) ∧ (¬ r_2 = 0 → (wM_in (fun r_3 => ((r_3 = 0 → (P (-1000000 : Int32))) ∧ (¬ r_3 = 0 → (wM_in (fun r_4 => ((¬ r_4 = 0 → (wM_sumOf (fun r_5 => (wM_orbitOf (fun r_6 => (wM_common (fun r_7 => (∀ x7_8 : Int32, x7_8 = (Int64.toInt32 r_7) → ((¬ x4 = 0 → (¬ x7_8 = 0 ∧ (P (r_6 / x7_8)))) ∧ (x4 = 0 → (¬ x7_8 = 0 ∧ (P (r_5 / x7_8))))))) (Int32.toInt64 r_5) (Int32.toInt64 r_6))) tc cl tr g x1 x2)) tc cl tr g x1 x2 x3)) ∧ (r_4 = 0 → (P (-1000000 : Int32))))) x4 (0 : Int32) (1 : Int32))))) x3 (0 : Int32) (2 : Int32))))) x2)))) tc cl tr g x1)
-- X1_even (II)I, effect 0, room (5, 122)
def wM_even_j92 (P : Int32 → Prop) (tc cl : Int32) (tr : Int64) (g : Sg) (B : Int32 → Int32 → Prop) (K101 : Int32 → Prop) (x1 : Int32) (x2 : Int32) (x3 : Int32) (x4 : Int32) (x6 : Int32) : Prop :=
  (B (0 : Int32) (x6 + 1))
def wM_even_j88 (P : Int32 → Prop) (tc cl : Int32) (tr : Int64) (g : Sg) (B : Int32 → Int32 → Prop) (K101 : Int32 → Prop) (x1 : Int32) (x2 : Int32) (x3 : Int32) (x4 : Int32) (x6 : Int32) : Prop :=
  (B (1 : Int32) (x6 + 1))
def wM_even_b40 (P : Int32 → Prop) (tc cl : Int32) (tr : Int64) (g : Sg) (x1 : Int32) (x2 : Int32) (x3 : Int32) (x4 : Int32) (K101 : Int32 → Prop) (B : Int32 → Int32 → Prop) (x5 : Int32) (x6 : Int32) : Prop :=
  ((((1 : Int32) <<< (tc &&& 31)) ≤ x6 → (K101 x5)) ∧ (¬ ((1 : Int32) <<< (tc &&& 31)) ≤ x6 → ((x5 = 0 → (wM_even_j92 P tc cl tr g B K101 x1 x2 x3 x4 x6)) ∧ (¬ x5 = 0 → (wM_isHeap (fun r_1 => ((r_1 = 0 → (wM_even_j88 P tc cl tr g B K101 x1 x2 x3 x4 x6)) ∧ (¬ r_1 = 0 → (wM_sumOf (fun r_2 => (wM_orbitOf (fun r_3 => ((¬ (r_2 * x4) = (x3 * r_3) → (wM_even_j92 P tc cl tr g B K101 x1 x2 x3 x4 x6)) ∧ ((r_2 * x4) = (x3 * r_3) → (wM_even_j88 P tc cl tr g B K101 x1 x2 x3 x4 x6)))) tc cl tr g x6 x1)) tc cl tr g x6 x1 x2)))) tc cl tr g x6)))))
def wM_even (P : Int32 → Prop) (tc cl : Int32) (tr : Int64) (g : Sg) (x1 : Int32) (x2 : Int32) : Prop :=
  (wM_isKind (fun r_4 => ((r_4 = 0 → (P (-1 : Int32))) ∧ (¬ r_4 = 0 → (wM_in (fun r_5 => ((¬ r_5 = 0 → (wM_sumOf (fun r_6 => (wM_orbitOf (fun r_7 => (∃ n_9, Lp2 (wM_even_b40 P tc cl tr g x1 x2 r_6 r_7 (fun (x5_8 : Int32) => ((x5_8 = 0 → (P (0 : Int32))) ∧ (¬ x5_8 = 0 → (P (1 : Int32)))))) n_9 (1 : Int32) (1 : Int32))) tc cl tr g (0 : Int32) x1)) tc cl tr g (0 : Int32) x1 x2)) ∧ (r_5 = 0 → (P (-1 : Int32))))) x2 (0 : Int32) (2 : Int32))))) x1)
-- X1_take (II)Z, effect 1, room (0, 0)
def wM_take_b5 (P : Int32 → Sg → Prop) (tc cl : Int32) (tr : Int64) (x1 : Int32) (x2 : Int32) (K38 : Int32 → Sg → Prop) (B : Int32 → Int32 → Sg → Prop) (x3 : Int32) (x4 : Int32) (g : Sg) : Prop :=
  ((tc ≤ x4 → (K38 x3 g)) ∧ (¬ tc ≤ x4 → (¬ (x1 + (1 : Int32)) = 0 ∧ (vp_in x4 8 ∧ ∀ g_1 : Sg, g_1 = up2 g 7 (x4).toNatClampNeg (x3 - x3 / (x1 + (1 : Int32)) * (x1 + (1 : Int32))) → (¬ (x1 + (1 : Int32)) = 0 ∧ (∀ x3_2 : Int32, x3_2 = (x3 / (x1 + (1 : Int32))) → (B x3_2 (x4 + 1) g_1)))))))
def wM_take_j122 (P : Int32 → Sg → Prop) (tc cl : Int32) (tr : Int64) (B : Int32 → Int32 → Sg → Prop) (K131 : Int32 → Sg → Prop) (x5 : Int32) (x6 : Int32) (g : Sg) : Prop :=
  (B (0 : Int32) (x6 + 1) g)
def wM_take_j118 (P : Int32 → Sg → Prop) (tc cl : Int32) (tr : Int64) (B : Int32 → Int32 → Sg → Prop) (K131 : Int32 → Sg → Prop) (x5 : Int32) (x6 : Int32) (g : Sg) : Prop :=
  (B (1 : Int32) (x6 + 1) g)
def wM_take_b71 (P : Int32 → Sg → Prop) (tc cl : Int32) (tr : Int64) (x5 : Int32) (K131 : Int32 → Sg → Prop) (B : Int32 → Int32 → Sg → Prop) (x4 : Int32) (x6 : Int32) (g : Sg) : Prop :=
  ((tc ≤ x6 → (K131 x4 g)) ∧ (¬ tc ≤ x6 → ((x4 = 0 → (wM_take_j122 P tc cl tr B K131 x5 x6 g)) ∧ (¬ x4 = 0 → (vp_in (((8 : Int32) * x5) + x6) 64 ∧ (((g 1 ((((8 : Int32) * x5) + x6)).toNatClampNeg) = 0 → (wM_take_j118 P tc cl tr B K131 x5 x6 g)) ∧ (¬ (g 1 ((((8 : Int32) * x5) + x6)).toNatClampNeg) = 0 → (vp_in x5 8 ∧ (vp_in x6 8 ∧ (((g 7 (x5).toNatClampNeg) < (g 7 (x6).toNatClampNeg) → (wM_take_j122 P tc cl tr B K131 x5 x6 g)) ∧ (¬ (g 7 (x5).toNatClampNeg) < (g 7 (x6).toNatClampNeg) → (wM_take_j118 P tc cl tr B K131 x5 x6 g))))))))))))
def wM_take_b56 (P : Int32 → Sg → Prop) (tc cl : Int32) (tr : Int64) (B : Int32 → Int32 → Sg → Prop) (x4 : Int32) (x5 : Int32) (g : Sg) : Prop :=
  ((tc ≤ x5 → (isB x4 ∧ P x4 g)) ∧ (¬ tc ≤ x5 → (∀ x6_3 : Int32, x6_3 = (x5 + (1 : Int32)) → (∃ n_6, Lp3 (wM_take_b71 P tc cl tr x5 (fun (x4_4 : Int32) (g_5 : Sg) => (B x4_4 (x5 + 1) g_5))) n_6 x4 x6_3 g))))
def wM_take_j51 (P : Int32 → Sg → Prop) (tc cl : Int32) (tr : Int64) (y0 : Int32) (g : Sg) : Prop :=
  (∃ n_7, Lp3 (wM_take_b56 P tc cl tr) n_7 y0 (0 : Int32) g)
def wM_take_j50 (P : Int32 → Sg → Prop) (tc cl : Int32) (tr : Int64) (g : Sg) : Prop :=
  (wM_take_j51 P tc cl tr (0 : Int32) g)
def wM_take (P : Int32 → Sg → Prop) (tc cl : Int32) (tr : Int64) (g : Sg) (x1 : Int32) (x2 : Int32) : Prop :=
  (∃ n_10, Lp3 (wM_take_b5 P tc cl tr x1 x2 (fun (x3_8 : Int32) (g_9 : Sg) => ((¬ x3_8 = 0 → (wM_take_j50 P tc cl tr g_9)) ∧ (x3_8 = 0 → ((x2 < 0 → (wM_take_j50 P tc cl tr g_9)) ∧ (¬ x2 < 0 → (wM_take_j51 P tc cl tr (1 : Int32) g_9))))))) n_10 x2 (0 : Int32) g)
-- X1_number (I)I, effect 0, room (0, 0)
def wM_number_b9 (P : Int32 → Prop) (tc cl : Int32) (tr : Int64) (g : Sg) (x1 : Int32) (B : Int32 → Int32 → Prop) (x2 : Int32) (x3 : Int32) : Prop :=
  ((x3 < 0 → (P x2)) ∧ (¬ x3 < 0 → (vp_in x3 8 ∧ (∀ x2_1 : Int32, x2_1 = (((x1 + (1 : Int32)) * x2) + (g 7 (x3).toNatClampNeg)) → (B x2_1 (x3 + (-1)))))))
def wM_number (P : Int32 → Prop) (tc cl : Int32) (tr : Int64) (g : Sg) (x1 : Int32) : Prop :=
  (∀ x3_2 : Int32, x3_2 = (tc - (1 : Int32)) → (∃ n_3, Lp2 (wM_number_b9 P tc cl tr g x1) n_3 (0 : Int32) x3_2))
-- X1_bends (II)V, effect 1, room (0, 0)
def wM_bends_j54 (P : Sg → Prop) (tc cl : Int32) (tr : Int64) (B : Int32 → Int32 → Int32 → Sg → Prop) (K102 : Int32 → Int32 → Sg → Prop) (x2 : Int32) (x4 : Int32) (x5 : Int32) (y0 : Int32) (g : Sg) : Prop :=
  (vp_in (((8 : Int32) * x2) + x5) 64 ∧ (((g 1 ((((8 : Int32) * x2) + x5)).toNatClampNeg) = 0 → (B y0 x4 (x5 + 1) g)) ∧ (¬ (g 1 ((((8 : Int32) * x2) + x5)).toNatClampNeg) = 0 → (vp_in x5 8 ∧ (((g 7 (x5).toNatClampNeg) ≤ x4 → (B y0 x4 (x5 + 1) g)) ∧ (¬ (g 7 (x5).toNatClampNeg) ≤ x4 → (vp_in x5 8 ∧ (∀ x4_1 : Int32, x4_1 = (g 7 (x5).toNatClampNeg) → (B y0 x4_1 (x5 + 1) g)))))))))
def wM_bends_j53 (P : Sg → Prop) (tc cl : Int32) (tr : Int64) (B : Int32 → Int32 → Int32 → Sg → Prop) (K102 : Int32 → Int32 → Sg → Prop) (x2 : Int32) (x3 : Int32) (x4 : Int32) (x5 : Int32) (g : Sg) : Prop :=
  (wM_bends_j54 P tc cl tr B K102 x2 x4 x5 x3 g)
def wM_bends_b8 (P : Sg → Prop) (tc cl : Int32) (tr : Int64) (x2 : Int32) (K102 : Int32 → Int32 → Sg → Prop) (B : Int32 → Int32 → Int32 → Sg → Prop) (x3 : Int32) (x4 : Int32) (x5 : Int32) (g : Sg) : Prop :=
  ((tc ≤ x5 → (K102 x3 x4 g)) ∧ (¬ tc ≤ x5 → (vp_in (((8 : Int32) * x5) + x2) 64 ∧ (((g 1 ((((8 : Int32) * x5) + x2)).toNatClampNeg) = 0 → (wM_bends_j53 P tc cl tr B K102 x2 x3 x4 x5 g)) ∧ (¬ (g 1 ((((8 : Int32) * x5) + x2)).toNatClampNeg) = 0 → (vp_in x5 8 ∧ ((x3 ≤ (g 7 (x5).toNatClampNeg) → (wM_bends_j53 P tc cl tr B K102 x2 x3 x4 x5 g)) ∧ (¬ x3 ≤ (g 7 (x5).toNatClampNeg) → (vp_in x5 8 ∧ (wM_bends_j54 P tc cl tr B K102 x2 x4 x5 (g 7 (x5).toNatClampNeg) g))))))))))
def wM_bends (P : Sg → Prop) (tc cl : Int32) (tr : Int64) (g : Sg) (x1 : Int32) (x2 : Int32) : Prop :=
  (∃ n_6, Lp4 (wM_bends_b8 P tc cl tr x2 (fun (x3_2 : Int32) (x4_3 : Int32) (g_4 : Sg) => (vp_in x2 8 ∧ (vp_in x2 8 ∧ ∀ g_5 : Sg, g_5 = up2 g_4 7 (x2).toNatClampNeg ((x3_2 + x4_3) - (g_4 7 (x2).toNatClampNeg)) → (P g_5))))) n_6 x1 (0 : Int32) (0 : Int32) g)
-- X1_rounds (II)V, effect 1, room (1, 25)
def wM_rounds_b42 (P : Sg → Prop) (tc cl : Int32) (tr : Int64) (x1 : Int32) (B : Int32 → Sg → Prop) (x3 : Int32) (g : Sg) : Prop :=
  ((x3 < 0 → (P g)) ∧ (¬ x3 < 0 → (wM_bends (fun g_1 => (B (x3 + (-1)) g_1)) tc cl tr g x1 x3)))
def wM_rounds_b7 (P : Sg → Prop) (tc cl : Int32) (tr : Int64) (x1 : Int32) (K32 : Sg → Prop) (B : Int32 → Sg → Prop) (x3 : Int32) (g : Sg) : Prop :=
  ((cl ≤ x3 → (K32 g)) ∧ (¬ cl ≤ x3 → (vp_in x3 16 ∧ (wM_bends (fun g_2 => (B (x3 + 1) g_2)) tc cl tr g x1 (g 3 (x3).toNatClampNeg)))))
def wM_rounds (P : Sg → Prop) (tc cl : Int32) (tr : Int64) (g : Sg) (x1 : Int32) (x2 : Int32) : Prop :=
  ((¬ x2 = (1 : Int32) → (∀ x3_3 : Int32, x3_3 = (tc - (1 : Int32)) → (∃ n_4, Lp2 (wM_rounds_b42 P tc cl tr x1) n_4 x3_3 g))) ∧ (x2 = (1 : Int32) → (∃ n_6, Lp2 (wM_rounds_b7 P tc cl tr x1 (fun (g_5 : Sg) => (P g_5))) n_6 (0 : Int32) g)))
-- X1_isHeight (I)Z, effect 0, room (1, 22)
def wM_isHeight (P : Int32 → Prop) (x0 : Int32) : Prop :=
  (wM_in (fun r_1 => (isB r_1 ∧ P r_1)) x0 (1 : Int32) (3 : Int32))
-- X1_fillings (I)I, effect 1, room (2, 42)
def wM_fillings_b13 (P : Int32 → Sg → Prop) (tc cl : Int32) (tr : Int64) (x1 : Int32) (K33 : Int32 → Sg → Prop) (B : Int32 → Int32 → Sg → Prop) (x2 : Int32) (x3 : Int32) (g : Sg) : Prop :=
  ((tc ≤ x3 → (K33 x2 g)) ∧ (¬ tc ≤ x3 → (∀ x2_1 : Int32, x2_1 = (x2 * (x1 + (1 : Int32))) → (B x2_1 (x3 + 1) g))))
def wM_fillings_j60 (P : Int32 → Sg → Prop) (tc cl : Int32) (tr : Int64) (B : Int32 → Int32 → Sg → Prop) (x1 : Int32) (x2 : Int32) (x4 : Int32) (y0 : Int32) (y1 : Int32) (g : Sg) : Prop :=
  (∀ x3_2 : Int32, x3_2 = (y0 + y1) → (B x3_2 (x4 + 1) g))
def wM_fillings_b38 (P : Int32 → Sg → Prop) (tc cl : Int32) (tr : Int64) (x1 : Int32) (x2 : Int32) (B : Int32 → Int32 → Sg → Prop) (x3 : Int32) (x4 : Int32) (g : Sg) : Prop :=
  ((x2 ≤ x4 → (P x3 g)) ∧ (¬ x2 ≤ x4 → (wM_take (fun r_3 g_4 => ((r_3 = 0 → (wM_fillings_j60 P tc cl tr B x1 x2 x4 x3 (0 : Int32) g_4)) ∧ (¬ r_3 = 0 → (wM_fillings_j60 P tc cl tr B x1 x2 x4 x3 (1 : Int32) g_4)))) tc cl tr g x1 x4)))
def wM_fillings (P : Int32 → Sg → Prop) (tc cl : Int32) (tr : Int64) (g : Sg) (x1 : Int32) : Prop :=
  (wM_isHeight (fun r_5 => ((¬ r_5 = 0 → (∃ n_9, Lp3 (wM_fillings_b13 P tc cl tr x1 (fun (x2_6 : Int32) (g_7 : Sg) => (∃ n_8, Lp3 (wM_fillings_b38 P tc cl tr x1 x2_6) n_8 (0 : Int32) (0 : Int32) g_7))) n_9 (1 : Int32) (0 : Int32) g)) ∧ (r_5 = 0 → (P (-1 : Int32) g)))) x1)
-- X1_bend (III)I, effect 1, room (2, 43)
def wM_bend (P : Int32 → Sg → Prop) (tc cl : Int32) (tr : Int64) (g : Sg) (x1 : Int32) (x2 : Int32) (x3 : Int32) : Prop :=
  (wM_isHeight (fun r_1 => ((r_1 = 0 → (P (-1 : Int32) g)) ∧ (¬ r_1 = 0 → (wM_isThing (fun r_2 => ((r_2 = 0 → (P (-1 : Int32) g)) ∧ (¬ r_2 = 0 → (wM_take (fun r_3 g_4 => ((¬ r_3 = 0 → (wM_bends (fun g_5 => (wM_number (fun r_6 => (P r_6 g_5)) tc cl tr g_5 x1)) tc cl tr g_4 x1 x3)) ∧ (r_3 = 0 → (P (-1 : Int32) g_4)))) tc cl tr g x1 x2)))) tc cl tr g x3)))) x1)
-- X1_round (III)I, effect 1, room (2, 48)
def wM_round (P : Int32 → Sg → Prop) (tc cl : Int32) (tr : Int64) (g : Sg) (x1 : Int32) (x2 : Int32) (x3 : Int32) : Prop :=
  (wM_isHeight (fun r_1 => ((r_1 = 0 → (P (-1 : Int32) g)) ∧ (¬ r_1 = 0 → (wM_isKind (fun r_2 => ((r_2 = 0 → (P (-1 : Int32) g)) ∧ (¬ r_2 = 0 → (wM_take (fun r_3 g_4 => ((¬ r_3 = 0 → (wM_rounds (fun g_5 => (wM_number (fun r_6 => (P r_6 g_5)) tc cl tr g_5 x1)) tc cl tr g_4 x1 x3)) ∧ (r_3 = 0 → (P (-1 : Int32) g_4)))) tc cl tr g x1 x2)))) x3)))) x1)
-- X1_period (III)I, effect 1, room (2, 48)
def wM_period_b31 (P : Int32 → Sg → Prop) (tc cl : Int32) (tr : Int64) (x1 : Int32) (x2 : Int32) (x3 : Int32) (K64 : Int32 → Int32 → Sg → Prop) (B : Int32 → Int32 → Sg → Prop) (x4 : Int32) (x5 : Int32) (g : Sg) : Prop :=
  ((x5 = x2 → (K64 x4 x5 g)) ∧ (¬ x5 = x2 → (((1000 : Int32) ≤ x4 → (K64 x4 x5 g)) ∧ (¬ (1000 : Int32) ≤ x4 → (wM_rounds (fun g_1 => (wM_number (fun r_2 => (B (x4 + 1) r_2 g_1)) tc cl tr g_1 x1)) tc cl tr g x1 x3)))))
def wM_period (P : Int32 → Sg → Prop) (tc cl : Int32) (tr : Int64) (g : Sg) (x1 : Int32) (x2 : Int32) (x3 : Int32) : Prop :=
  (wM_isHeight (fun r_3 => ((r_3 = 0 → (P (-1 : Int32) g)) ∧ (¬ r_3 = 0 → (wM_isKind (fun r_4 => ((r_4 = 0 → (P (-1 : Int32) g)) ∧ (¬ r_4 = 0 → (wM_take (fun r_5 g_6 => ((¬ r_5 = 0 → (∃ n_10, Lp3 (wM_period_b31 P tc cl tr x1 x2 x3 (fun (x4_7 : Int32) (x5_8 : Int32) (g_9 : Sg) => ((¬ x5_8 = x2 → (P (-9 : Int32) g_9)) ∧ (x5_8 = x2 → (P x4_7 g_9))))) n_10 (0 : Int32) (-1 : Int32) g_6)) ∧ (r_5 = 0 → (P (-1 : Int32) g_6)))) tc cl tr g x1 x2)))) x3)))) x1)
-- X1_countOf (I)I, effect 0, room (2, 46)
def wM_countOf_j45 (P : Int32 → Prop) (tc cl : Int32) (tr : Int64) (g : Sg) (B : Int32 → Int32 → Prop) (K54 : Int32 → Prop) (x1 : Int32) (x2 : Int32) (x3 : Int32) (x5 : Int32) (y0 : Int32) (y1 : Int32) : Prop :=
  (∀ x4_1 : Int32, x4_1 = (y0 + y1) → (B x4_1 (x5 + 1)))
def wM_countOf_b20 (P : Int32 → Prop) (tc cl : Int32) (tr : Int64) (g : Sg) (x1 : Int32) (x2 : Int32) (x3 : Int32) (K54 : Int32 → Prop) (B : Int32 → Int32 → Prop) (x4 : Int32) (x5 : Int32) : Prop :=
  ((tc ≤ x5 → (K54 x4)) ∧ (¬ tc ≤ x5 → (wM_has (fun r_2 => ((r_2 = 0 → (wM_countOf_j45 P tc cl tr g B K54 x1 x2 x3 x5 x4 (0 : Int32))) ∧ (¬ r_2 = 0 → (wM_countOf_j45 P tc cl tr g B K54 x1 x2 x3 x5 x4 (1 : Int32))))) x3 x5)))
def wM_countOf_j74 (P : Int32 → Prop) (tc cl : Int32) (tr : Int64) (g : Sg) (B : Int32 → Int32 → Prop) (x1 : Int32) (x3 : Int32) (y0 : Int32) (y1 : Int32) : Prop :=
  (∀ x2_3 : Int32, x2_3 = (y0 + y1) → (B x2_3 (x3 + 1)))
def wM_countOf_j73 (P : Int32 → Prop) (tc cl : Int32) (tr : Int64) (g : Sg) (B : Int32 → Int32 → Prop) (x1 : Int32) (x3 : Int32) (y0 : Int32) : Prop :=
  (wM_countOf_j74 P tc cl tr g B x1 x3 y0 (0 : Int32))
def wM_countOf_b4 (P : Int32 → Prop) (tc cl : Int32) (tr : Int64) (g : Sg) (x1 : Int32) (B : Int32 → Int32 → Prop) (x2 : Int32) (x3 : Int32) : Prop :=
  ((((1 : Int32) <<< (tc &&& 31)) ≤ x3 → (P x2)) ∧ (¬ ((1 : Int32) <<< (tc &&& 31)) ≤ x3 → (∃ n_6, Lp2 (wM_countOf_b20 P tc cl tr g x1 x2 x3 (fun (x4_4 : Int32) => ((¬ x4_4 = x1 → (wM_countOf_j73 P tc cl tr g B x1 x3 x2)) ∧ (x4_4 = x1 → (wM_isHeap (fun r_5 => ((r_5 = 0 → (wM_countOf_j73 P tc cl tr g B x1 x3 x2)) ∧ (¬ r_5 = 0 → (wM_countOf_j74 P tc cl tr g B x1 x3 x2 (1 : Int32))))) tc cl tr g x3))))) n_6 (0 : Int32) (0 : Int32))))
def wM_countOf (P : Int32 → Prop) (tc cl : Int32) (tr : Int64) (g : Sg) (x1 : Int32) : Prop :=
  (∃ n_7, Lp2 (wM_countOf_b4 P tc cl tr g x1) n_7 (0 : Int32) (0 : Int32))
-- X1_counts (I)I, effect 0, room (3, 71)
def wM_counts (P : Int32 → Prop) (tc cl : Int32) (tr : Int64) (g : Sg) (x1 : Int32) : Prop :=
  (wM_in (fun r_1 => ((r_1 = 0 → (P (-1 : Int32))) ∧ (¬ r_1 = 0 → (wM_countOf (fun r_2 => (P r_2)) tc cl tr g x1)))) x1 (0 : Int32) tc)
-- X1_at (I)I, effect 1, room (3, 71)
def wM_at_b20 (P : Int32 → Sg → Prop) (tc cl : Int32) (tr : Int64) (x1 : Int32) (K39 : Sg → Prop) (B : Int32 → Sg → Prop) (x2 : Int32) (g : Sg) : Prop :=
  (((6 : Int32) ≤ x2 → (K39 g)) ∧ (¬ (6 : Int32) ≤ x2 → (vp_in x2 6 ∧ ∀ g_1 : Sg, g_1 = up2 g 8 (x2).toNatClampNeg (0 : Int32) → (B (x2 + 1) g_1))))
def wM_at_b41 (P : Int32 → Sg → Prop) (tc cl : Int32) (tr : Int64) (x1 : Int32) (K71 : Sg → Prop) (B : Int32 → Sg → Prop) (x2 : Int32) (g : Sg) : Prop :=
  ((tc < x2 → (K71 g)) ∧ (¬ tc < x2 → (¬ x1 = 0 ∧ (vp_in (x2 - x2 / x1 * x1) 6 ∧ (wM_countOf (fun r_2 => (vp_in (x2 - x2 / x1 * x1) 6 ∧ ∀ g_3 : Sg, g_3 = up2 g 8 ((x2 - x2 / x1 * x1)).toNatClampNeg ((g 8 ((x2 - x2 / x1 * x1)).toNatClampNeg) + r_2) → (B (x2 + 1) g_3))) tc cl tr g x2)))))
def wM_at (P : Int32 → Sg → Prop) (tc cl : Int32) (tr : Int64) (g : Sg) (x1 : Int32) : Prop :=
  (wM_in (fun r_4 => ((r_4 = 0 → (P (-1000001 : Int32) g)) ∧ (¬ r_4 = 0 → ((¬ x1 = (5 : Int32) → (∃ n_8, Lp2 (wM_at_b20 P tc cl tr x1 (fun (g_5 : Sg) => (∃ n_7, Lp2 (wM_at_b41 P tc cl tr x1 (fun (g_6 : Sg) => ((x1 = 1 → (vp_in (0 : Int32) 6 ∧ (P (g_6 8 ((0 : Int32)).toNatClampNeg) g_6))) ∧ (x1 = 2 → (vp_in (0 : Int32) 6 ∧ (vp_in (1 : Int32) 6 ∧ (P ((g_6 8 ((0 : Int32)).toNatClampNeg) - (g_6 8 ((1 : Int32)).toNatClampNeg)) g_6)))) ∧ (x1 = 3 → (vp_in (1 : Int32) 6 ∧ (vp_in (2 : Int32) 6 ∧ ((¬ (g_6 8 ((1 : Int32)).toNatClampNeg) = (g_6 8 ((2 : Int32)).toNatClampNeg) → (P (-1000000 : Int32) g_6)) ∧ ((g_6 8 ((1 : Int32)).toNatClampNeg) = (g_6 8 ((2 : Int32)).toNatClampNeg) → (vp_in (0 : Int32) 6 ∧ (vp_in (2 : Int32) 6 ∧ (P ((g_6 8 ((0 : Int32)).toNatClampNeg) - (g_6 8 ((2 : Int32)).toNatClampNeg)) g_6)))))))) ∧ (x1 = 4 → (vp_in (1 : Int32) 6 ∧ (vp_in (3 : Int32) 6 ∧ ((¬ (g_6 8 ((1 : Int32)).toNatClampNeg) = (g_6 8 ((3 : Int32)).toNatClampNeg) → (P (-1000000 : Int32) g_6)) ∧ ((g_6 8 ((1 : Int32)).toNatClampNeg) = (g_6 8 ((3 : Int32)).toNatClampNeg) → (vp_in (0 : Int32) 6 ∧ (vp_in (2 : Int32) 6 ∧ (P ((g_6 8 ((0 : Int32)).toNatClampNeg) - (g_6 8 ((2 : Int32)).toNatClampNeg)) g_6)))))))) ∧ (¬ x1 = 1 → ¬ x1 = 2 → ¬ x1 = 3 → ¬ x1 = 4 → (vp_in (1 : Int32) 6 ∧ (vp_in (4 : Int32) 6 ∧ (vp_in (2 : Int32) 6 ∧ (vp_in (5 : Int32) 6 ∧ ((¬ ((((g_6 8 ((1 : Int32)).toNatClampNeg) - (g_6 8 ((4 : Int32)).toNatClampNeg)) + (g_6 8 ((2 : Int32)).toNatClampNeg)) - (g_6 8 ((5 : Int32)).toNatClampNeg)) = 0 → (P (-1000000 : Int32) g_6)) ∧ (((((g_6 8 ((1 : Int32)).toNatClampNeg) - (g_6 8 ((4 : Int32)).toNatClampNeg)) + (g_6 8 ((2 : Int32)).toNatClampNeg)) - (g_6 8 ((5 : Int32)).toNatClampNeg)) = 0 → (vp_in (0 : Int32) 6 ∧ (vp_in (3 : Int32) 6 ∧ (vp_in (2 : Int32) 6 ∧ (vp_in (5 : Int32) 6 ∧ (P ((((g_6 8 ((0 : Int32)).toNatClampNeg) - (g_6 8 ((3 : Int32)).toNatClampNeg)) - (g_6 8 ((2 : Int32)).toNatClampNeg)) + (g_6 8 ((5 : Int32)).toNatClampNeg)) g_6))))))))))))))) n_7 (0 : Int32) g_5))) n_8 (0 : Int32) g)) ∧ (x1 = (5 : Int32) → (P (-1000001 : Int32) g)))))) x1 (1 : Int32) (6 : Int32))
-- X1_stays (II)I, effect 0, room (5, 121)
def wM_stays_j63 (P : Int32 → Prop) (tc cl : Int32) (tr : Int64) (g : Sg) (B : Int32 → Int32 → Prop) (x1 : Int32) (x2 : Int32) (x4 : Int32) (y0 : Int32) (y1 : Int32) : Prop :=
  (∀ x3_1 : Int32, x3_1 = (y0 + y1) → (B x3_1 (x4 + 1)))
def wM_stays_j62 (P : Int32 → Prop) (tc cl : Int32) (tr : Int64) (g : Sg) (B : Int32 → Int32 → Prop) (x1 : Int32) (x2 : Int32) (x4 : Int32) (y0 : Int32) : Prop :=
  (wM_stays_j63 P tc cl tr g B x1 x2 x4 y0 (0 : Int32))
def wM_stays_b25 (P : Int32 → Prop) (tc cl : Int32) (tr : Int64) (g : Sg) (x1 : Int32) (x2 : Int32) (B : Int32 → Int32 → Prop) (x3 : Int32) (x4 : Int32) : Prop :=
  ((((1 : Int32) <<< (tc &&& 31)) ≤ x4 → (P x3)) ∧ (¬ ((1 : Int32) <<< (tc &&& 31)) ≤ x4 → (wM_isHeap (fun r_2 => ((r_2 = 0 → (wM_stays_j62 P tc cl tr g B x1 x2 x4 x3)) ∧ (¬ r_2 = 0 → (wM_orbitOf (fun r_3 => (¬ r_3 = 0 ∧ ((¬ (x2 - x2 / r_3 * r_3) = 0 → (wM_stays_j62 P tc cl tr g B x1 x2 x4 x3)) ∧ ((x2 - x2 / r_3 * r_3) = 0 → (wM_stays_j63 P tc cl tr g B x1 x2 x4 x3 (1 : Int32)))))) tc cl tr g x4 x1)))) tc cl tr g x4)))
def wM_stays (P : Int32 → Prop) (tc cl : Int32) (tr : Int64) (g : Sg) (x1 : Int32) (x2 : Int32) : Prop :=
  (wM_isKind (fun r_4 => ((r_4 = 0 → (P (-1 : Int32))) ∧ (¬ r_4 = 0 → (wM_in (fun r_5 => ((¬ r_5 = 0 → (∃ n_6, Lp2 (wM_stays_b25 P tc cl tr g x1 x2) n_6 (0 : Int32) (0 : Int32))) ∧ (r_5 = 0 → (P (-1 : Int32))))) x2 (0 : Int32) (1000 : Int32))))) x1)
-- X1_count (I)I, effect 0, room (0, 0)
def wM_count_j61 (P : Int32 → Prop) (tc cl : Int32) (tr : Int64) (g : Sg) (B : Int32 → Int32 → Prop) (x3 : Int32) (y0 : Int32) (y1 : Int32) : Prop :=
  (∀ x2_1 : Int32, x2_1 = (y0 + y1) → (B x2_1 (x3 + 1)))
def wM_count_b40 (P : Int32 → Prop) (tc cl : Int32) (tr : Int64) (g : Sg) (B : Int32 → Int32 → Prop) (x2 : Int32) (x3 : Int32) : Prop :=
  (((64 : Int32) ≤ x3 → (P x2)) ∧ (¬ (64 : Int32) ≤ x3 → (vp_in x3 64 ∧ (((g 1 (x3).toNatClampNeg) = 0 → (wM_count_j61 P tc cl tr g B x3 x2 (0 : Int32))) ∧ (¬ (g 1 (x3).toNatClampNeg) = 0 → (wM_count_j61 P tc cl tr g B x3 x2 (1 : Int32)))))))
def wM_count (P : Int32 → Prop) (tc cl : Int32) (tr : Int64) (g : Sg) (x1 : Int32) : Prop :=
  ((x1 = 0 → (P tc)) ∧ (x1 = 1 → (P cl)) ∧ (x1 = 2 → (∃ n_2, Lp2 (wM_count_b40 P tc cl tr g) n_2 (0 : Int32) (0 : Int32))) ∧ (¬ x1 = 0 → ¬ x1 = 1 → ¬ x1 = 2 → (P (-1 : Int32))))
-- X1_trace ()J, effect 0, room (0, 0)
def wM_trace (P : Int64 → Prop) (tc cl : Int32) (tr : Int64) (g : Sg) : Prop :=
  (P tr)
end
section
set_option maxHeartbeats 4000000 in
set_option maxRecDepth 100000 in
theorem cX_isThing (l : Launch) (dC : Nat → ClassId) (dI : Nat → Nat → Nat) (h : Nat) (ad : Nat → Nat) (ca : Nat → ClassId) (tc cl : Int32) (tr : Int64) (g : Sg) (x1 : Int32) (P : Int32 → Prop) (hw : wX_isThing P tc cl tr g x1) : Met l yX0_isThing wsX0_isThing ({ frames := 0, cells := 0, slots := 0, locals := 0 }) (va_Pc [.ref h, .int x1] (fun U => va_P (dC, dI) vwCl (XL h ad ca tc cl tr g) U.heap ∧ va_K (dC, dI) vwCl (XT ca) U)) (vp_Si P) 0 0 (fun _ => False) := by
  refine Met.ofW (cc := cX0_isThing) (maxL := 2) (ret := (some .boolean)) (by decide) rfl ?_
  intro p e s m args below meth c s₁ B0 hml hv
  obtain ⟨hargs, hP, hK⟩ := hv
  have hx := B0.exec
  have hb := B0.bytes
  have hr := B0.returns
  have hts := atoms_spec (ws := wsX0_isThing) B0.pre
  have hown : s.vm.findClass RX0 = some m.cls := findClass_of_methodNamed B0.named
  have hlocks := B0.notSynchronized
  have inw : ∀ w ∈ wsX00, w ∈ wsX0_isThing := fun w h => List.mem_cons_of_mem _ (List.mem_append_right _ h)
  have f9 : (Cond.fieldLink RX0 9 "FlipHeaps" "thingCount" "I").before args s = true := hts _ (by decide +kernel)
  subst hargs
  unfold wX_isThing at hw
  have hl := lv_entry ([.ref h, .int x1]) (n := 2) (Nat.le_of_ble_eq_true rfl)
  rw [lg_entry_eq]
  generalize (lg_sl ([.ref h, .int x1]) ++ List.replicate (2 - (lg_sl ([.ref h, .int x1])).length) Slot.unset).toArray = ls at hl ⊢
  have hl : lv_has ls 2 [(0, .ref h), (1, .int x1)] := hl
  refine lv_iload_n hx hb dX0_isThing_0 rfl (lv_at hl 1 rfl) ?_
  refine lv_if_lt (tgt := 16) hx hb dX0_isThing_1 (by decide) (fun hc => ?_) (fun hc => ?_)
  · replace hw := hw.1 hc
    clear hc
    refine lv_iconst (v := (0 : Int32)) hx hb dX0_isThing_16 (by decide) ?_
    exact W.zret (v := (0 : Int32)) hx hb hr rfl (fun t ht hW => ⟨_, rfl, hw, ht⟩) (fun q h => absurd h List.not_mem_nil) dX0_isThing_17
  · replace hw := hw.2 hc
    clear hc
    refine lv_iload_n hx hb dX0_isThing_4 rfl (lv_at hl 1 rfl) ?_
    refine lv_aload_n hx hb dX0_isThing_5 rfl (lv_at hl 0 rfl) ?_
    refine va_get (D := (dC, dI)) (ci := 0) (C := RX0) (T := TX0) (N := 13) hx hb hts inw hown hK hP 0 rfl rfl 0 (by decide) f9 (fun _ h9 => h9) rfl dX0_isThing_6 ?_
    refine lv_icmp_ge (tgt := 16) hx hb dX0_isThing_9 (by decide) (fun hc => ?_) (fun hc => ?_)
    · replace hw := hw.1 hc
      clear hc
      refine lv_iconst (v := (0 : Int32)) hx hb dX0_isThing_16 (by decide) ?_
      exact W.zret (v := (0 : Int32)) hx hb hr rfl (fun t ht hW => ⟨_, rfl, hw, ht⟩) (fun q h => absurd h List.not_mem_nil) dX0_isThing_17
    · replace hw := hw.2 hc
      clear hc
      refine lv_iconst (v := (1 : Int32)) hx hb dX0_isThing_12 (by decide) ?_
      refine lv_goto (tgt := 17) hx hb dX0_isThing_13 (by decide) ?_
      exact W.zret (v := (1 : Int32)) hx hb hr rfl (fun t ht hW => ⟨_, rfl, hw, ht⟩) (fun q h => absurd h List.not_mem_nil) dX0_isThing_17
set_option maxHeartbeats 4000000 in
set_option maxRecDepth 100000 in
theorem cX_has (l : Launch) (x0 : Int32) (x1 : Int32) (P : Int32 → Prop) (hw : wX_has P x0 x1) : Met l yX0_has wsX0_has ({ frames := 0, cells := 0, slots := 0, locals := 0 }) (va_Pc [.int x0, .int x1] (fun _ => True)) (vp_Si P) 0 0 (fun _ => False) := by
  refine Met.ofW (cc := cX0_has) (maxL := 2) (ret := (some .boolean)) (by decide) rfl ?_
  intro p e s m args below meth c s₁ B0 hml hv
  obtain ⟨hargs, -⟩ := hv
  have hx := B0.exec
  have hb := B0.bytes
  have hr := B0.returns
  have hts := atoms_spec (ws := wsX0_has) B0.pre
  have hown : s.vm.findClass RX0 = some m.cls := findClass_of_methodNamed B0.named
  have hlocks := B0.notSynchronized
  subst hargs
  unfold wX_has at hw
  have hl := lv_entry ([.int x0, .int x1]) (n := 2) (Nat.le_of_ble_eq_true rfl)
  rw [lg_entry_eq]
  generalize (lg_sl ([.int x0, .int x1]) ++ List.replicate (2 - (lg_sl ([.int x0, .int x1])).length) Slot.unset).toArray = ls at hl ⊢
  have hl : lv_has ls 2 [(0, .int x0), (1, .int x1)] := hl
  refine lv_iload_n hx hb dX0_has_0 rfl (lv_at hl 0 rfl) ?_
  refine lv_iload_n hx hb dX0_has_1 rfl (lv_at hl 1 rfl) ?_
  refine lv_ishr hx hb dX0_has_2 ?_
  refine lv_iconst (v := (1 : Int32)) hx hb dX0_has_3 (by decide) ?_
  refine lv_iand hx hb dX0_has_4 ?_
  refine lv_if_eq (tgt := 12) hx hb dX0_has_5 (by decide) (fun hc => ?_) (fun hc => ?_)
  · replace hw := hw.1 hc
    clear hc
    refine lv_iconst (v := (0 : Int32)) hx hb dX0_has_12 (by decide) ?_
    exact W.zret (v := (0 : Int32)) hx hb hr rfl (fun t ht hW => ⟨_, rfl, hw, ht⟩) (fun q h => absurd h List.not_mem_nil) dX0_has_13
  · replace hw := hw.2 hc
    clear hc
    refine lv_iconst (v := (1 : Int32)) hx hb dX0_has_8 (by decide) ?_
    refine lv_goto (tgt := 13) hx hb dX0_has_9 (by decide) ?_
    exact W.zret (v := (1 : Int32)) hx hb hr rfl (fun t ht hW => ⟨_, rfl, hw, ht⟩) (fun q h => absurd h List.not_mem_nil) dX0_has_13
set_option maxHeartbeats 4000000 in
set_option maxRecDepth 100000 in
theorem cX_lay (l : Launch) (dC : Nat → ClassId) (dI : Nat → Nat → Nat) (h : Nat) (ad : Nat → Nat) (ca : Nat → ClassId) (sz : Nat) (tc cl : Int32) (tr : Int64) (g : Sg) (x1 : Int32) (x2 : Int32) (P : Int32 → Sg → Prop) (hw : wX_lay P tc cl tr g x1 x2) : Met l yX0_lay wsX0_lay ({ frames := 1, cells := 0, slots := 0, locals := 21 }) (va_Pc [.ref h, .int x1, .int x2] (fun U => U.heap.size = sz ∧ va_P (dC, dI) vwCl (XL h ad ca tc cl tr g) U.heap ∧ va_K (dC, dI) vwCl (XT ca) U ∧ va_D (fun _ => True) (XL h ad ca tc cl tr g))) (va_Qi (fun (r : Int32) (u : Sg) => P r u) (at_X1 dC dI (va_A (XL h ad ca tc cl tr g) sz) h ad ca tc cl tr) (va_A (XL h ad ca tc cl tr g) sz)) 0 0 (va_A (XL h ad ca tc cl tr g) sz) := by
  refine Met.ofW (cc := cX0_lay) (maxL := 6) (ret := (some .int)) (by decide) rfl ?_
  intro p e s m args below meth c s₁ B0 hml hv
  obtain ⟨hargs, hsz, hP, hK, hD0⟩ := hv
  have hx := B0.exec
  have hb := B0.bytes
  have hr := B0.returns
  have hts := atoms_spec (ws := wsX0_lay) B0.pre
  have hown : s.vm.findClass RX0 = some m.cls := findClass_of_methodNamed B0.named
  have hlocks := B0.notSynchronized
  have inw : ∀ w ∈ wsX00, w ∈ wsX0_lay := fun w h => List.mem_cons_of_mem _ (List.mem_append_right _ h)
  have f9 : (Cond.fieldLink RX0 9 "FlipHeaps" "thingCount" "I").before args s = true := hts _ (by decide +kernel)
  have f13 : (Cond.fieldLink RX0 13 "FlipHeaps" "under" "[I").before args s = true := hts _ (by decide +kernel)
  have f17 : (Cond.fieldLink RX0 17 "FlipHeaps" "over" "[I").before args s = true := hts _ (by decide +kernel)
  subst hsz
  have hD := hD0.self (sz := s.heap.size)
  generalize hAe : va_A (XL h ad ca tc cl tr g) s.heap.size = A at hD ⊢
  have hA : ∀ q : Nat, s.heap.size ≤ q → A q := fun q h => by rw [← hAe]; exact Or.inr h
  clear hAe hD0
  have hS : va_S A s.heap s.heap [] := va_S.rf
  have jn_94 : ∀ (B : Int32 → Sg → Prop) (x3 : Int32) (x4 : Int32) (x5 : Int32) (g : Sg) (hB : ∀ (x5 : Int32) (g : Sg) (H : Heap) (locs : List Loc) (ls : Array Slot), B x5 g → va_P (dC, dI) vwCl (XL h ad ca tc cl tr g) H → va_D A (XL h ad ca tc cl tr g) → va_S A s.heap H locs → lv_has ls 6 [(0, .ref h), (3, .int x3), (4, .int x4), (5, .int x5)] → W p l e (headSpec wsX0_lay ({ frames := 1, cells := 0, slots := 0, locals := 21 })).room s m args below meth c H locs 0 0 (MQ below (va_Qi (fun (r : Int32) (u : Sg) => P r u) (at_X1 dC dI A h ad ca tc cl tr) A) args s 0 0 A) (F0 m 64 ls [])) (H : Heap) (locs : List Loc) (ls : Array Slot), wX_lay_j94 P tc cl tr B x3 x4 x5 g → va_P (dC, dI) vwCl (XL h ad ca tc cl tr g) H → va_D A (XL h ad ca tc cl tr g) → va_S A s.heap H locs → lv_has ls 6 [(0, .ref h), (3, .int x3), (4, .int x4), (5, .int x5)] → W p l e (headSpec wsX0_lay ({ frames := 1, cells := 0, slots := 0, locals := 21 })).room s m args below meth c H locs 0 0 (MQ below (va_Qi (fun (r : Int32) (u : Sg) => P r u) (at_X1 dC dI A h ad ca tc cl tr) A) args s 0 0 A) (F0 m 94 ls []) := by
    intro B x3 x4 x5 g hB H locs ls hw hP hD hS hl
    unfold wX_lay_j94 at hw
    refine lv_iload hx hb dX0_lay_94 (lv_at hl 2 rfl) ?_
    refine lv_iload hx hb dX0_lay_96 (lv_at hl 3 rfl) ?_
    refine vp_callSi (W.runS (As := [.int x4, .int x5]) (rest := []) ⟨hx, hb, hml, hown, hts⟩ (cX_has l x4 x5 _ hw) (va_cwS 2 hts gX0_lay_X0_has rfl rfl rfl (by decide +kernel) ⟨Nat.le_of_ble_eq_true rfl, Nat.le_of_ble_eq_true rfl⟩) ⟨fun a U g mk q => q, fun U hU hW => ⟨rfl, trivial⟩⟩ rfl rfl hl.1 rfl (lv_room (Nat.le_of_ble_eq_true rfl)) dX0_lay_98 ⟨Nat.zero_le _, Nat.zero_le _⟩) (fun r_1 hw => ?_)
    try dsimp only at hw
    refine lv_if_eq (tgt := 115) hx hb dX0_lay_101 (by decide) (fun hc => ?_) (fun hc => ?_)
    · replace hw := hw.1 hc
      clear hc
      refine lv_iinc (v := (x5 + 1)) (lv' := [(5, .int ((x5 + 1))), (0, .ref h), (3, .int x3), (4, .int x4)]) hx hb dX0_lay_115 hl (k := 3) rfl rfl (by decide) rfl (fun ls hl => ?_)
      refine lv_goto (tgt := 64) hx hb dX0_lay_118 (by decide) ?_
      exact hB (x5 + 1) g H locs ls hw hP hD hS (lv_sub hl [1, 2, 3, 0] rfl)
    · replace hw := hw.2 hc
      clear hc
      refine lv_aload_n hx hb dX0_lay_104 rfl (lv_at hl 0 rfl) ?_
      refine va_get (D := (dC, dI)) (ci := 0) (C := RX0) (T := TX0) (N := 13) hx hb hts inw hown hK hP 0 rfl rfl 3 (by decide) f13 (fun _ h9 => h9) rfl dX0_lay_105 ?_
      refine lv_iload hx hb dX0_lay_108 (lv_at hl 3 rfl) ?_
      refine lv_dup2_11 hx hb dX0_lay_110 rfl rfl ?_
      obtain ⟨hin, hw⟩ := hw
      refine va_iald hx hb hK hP 1 0 rfl rfl hin dX0_lay_111 ?_
      refine lv_iload_n hx hb dX0_lay_112 rfl (lv_at hl 1 rfl) ?_
      refine lv_ior hx hb dX0_lay_113 ?_
      obtain ⟨hin, hw⟩ := hw
      refine va_iast hx hb hK hP hD hS 1 0 rfl rfl hin dX0_lay_114 (fun H locs hP hD hS => ?_)
      obtain ⟨g_2, hg⟩ : ∃ z : Sg, z = up2 g 3 (x5).toNatClampNeg ((g 3 (x5).toNatClampNeg) ||| x3) := ⟨_, rfl⟩
      replace hw := hw g_2 hg
      have hP : va_P (dC, dI) vwCl (XL h ad ca tc cl tr g_2) H := by rw [hg]; exact hP
      have hD : va_D A (XL h ad ca tc cl tr g_2) := by rw [hg]; exact hD
      clear hg
      refine lv_iinc (v := (x5 + 1)) (lv' := [(5, .int ((x5 + 1))), (0, .ref h), (3, .int x3), (4, .int x4)]) hx hb dX0_lay_115 hl (k := 3) rfl rfl (by decide) rfl (fun ls hl => ?_)
      refine lv_goto (tgt := 64) hx hb dX0_lay_118 (by decide) ?_
      exact hB (x5 + 1) g_2 H locs ls hw hP hD hS (lv_sub hl [1, 2, 3, 0] rfl)
  have lp_64 : ∀ (x3 : Int32) (x4 : Int32), ∀ (n : Nat) (x5 : Int32) (g : Sg) (H : Heap) (locs : List Loc) (ls : Array Slot), Lp2 (wX_lay_b64 P tc cl tr x3 x4) n x5 g → va_P (dC, dI) vwCl (XL h ad ca tc cl tr g) H → va_D A (XL h ad ca tc cl tr g) → va_S A s.heap H locs → lv_has ls 6 [(0, .ref h), (3, .int x3), (4, .int x4), (5, .int x5)] → W p l e (headSpec wsX0_lay ({ frames := 1, cells := 0, slots := 0, locals := 21 })).room s m args below meth c H locs 0 0 (MQ below (va_Qi (fun (r : Int32) (u : Sg) => P r u) (at_X1 dC dI A h ad ca tc cl tr) A) args s 0 0 A) (F0 m 64 ls []) := by
    intro x3 x4
    intro n
    induction n with
    | zero => intro x5 g H locs ls hw; exact False.elim hw
    | succ n hB =>
      intro x5 g H locs ls hw hP hD hS hl
      replace hw : wX_lay_b64 P tc cl tr x3 x4 (Lp2 (wX_lay_b64 P tc cl tr x3 x4) n) x5 g := hw
      unfold wX_lay_b64 at hw
      refine lv_iload hx hb dX0_lay_64 (lv_at hl 3 rfl) ?_
      refine lv_aload_n hx hb dX0_lay_66 rfl (lv_at hl 0 rfl) ?_
      refine va_get (D := (dC, dI)) (ci := 0) (C := RX0) (T := TX0) (N := 13) hx hb hts inw hown hK hP 0 rfl rfl 0 (by decide) f9 (fun _ h9 => h9) rfl dX0_lay_67 ?_
      refine lv_icmp_ge (tgt := 121) hx hb dX0_lay_70 (by decide) (fun hc => ?_) (fun hc => ?_)
      · replace hw := hw.1 hc
        clear hc
        refine lv_iconst (v := (1 : Int32)) hx hb dX0_lay_121 (by decide) ?_
        exact W.iret (v := (1 : Int32)) hx hb hr (fun t ht hW => ⟨⟨(1 : Int32), g, rfl, hw, by rw [ht]; exact hP, va_K.moved hW.alike hK, hD⟩, hS.F ht⟩) hS.2.2 dX0_lay_122
      · replace hw := hw.2 hc
        clear hc
        refine lv_iload_n hx hb dX0_lay_73 rfl (lv_at hl 1 rfl) ?_
        refine lv_iload hx hb dX0_lay_74 (lv_at hl 3 rfl) ?_
        refine vp_callSi (W.runS (As := [.int x3, .int x5]) (rest := []) ⟨hx, hb, hml, hown, hts⟩ (cX_has l x3 x5 _ hw) (va_cwS 2 hts gX0_lay_X0_has rfl rfl rfl (by decide +kernel) ⟨Nat.le_of_ble_eq_true rfl, Nat.le_of_ble_eq_true rfl⟩) ⟨fun a U g mk q => q, fun U hU hW => ⟨rfl, trivial⟩⟩ rfl rfl hl.1 rfl (lv_room (Nat.le_of_ble_eq_true rfl)) dX0_lay_76 ⟨Nat.zero_le _, Nat.zero_le _⟩) (fun r_3 hw => ?_)
        try dsimp only at hw
        refine lv_if_eq (tgt := 94) hx hb dX0_lay_79 (by decide) (fun hc => ?_) (fun hc => ?_)
        · replace hw := hw.1 hc
          clear hc
          exact jn_94 _ x3 x4 x5 g hB H locs ls hw hP hD hS (lv_sub hl [0, 1, 2, 3] rfl)
        · replace hw := hw.2 hc
          clear hc
          refine lv_aload_n hx hb dX0_lay_82 rfl (lv_at hl 0 rfl) ?_
          refine va_get (D := (dC, dI)) (ci := 0) (C := RX0) (T := TX0) (N := 13) hx hb hts inw hown hK hP 0 rfl rfl 4 (by decide) f17 (fun _ h9 => h9) rfl dX0_lay_83 ?_
          refine lv_iload hx hb dX0_lay_86 (lv_at hl 3 rfl) ?_
          refine lv_dup2_11 hx hb dX0_lay_88 rfl rfl ?_
          obtain ⟨hin, hw⟩ := hw
          refine va_iald hx hb hK hP 2 1 rfl rfl hin dX0_lay_89 ?_
          refine lv_iload hx hb dX0_lay_90 (lv_at hl 2 rfl) ?_
          refine lv_ior hx hb dX0_lay_92 ?_
          obtain ⟨hin, hw⟩ := hw
          refine va_iast hx hb hK hP hD hS 2 1 rfl rfl hin dX0_lay_93 (fun H locs hP hD hS => ?_)
          obtain ⟨g_4, hg⟩ : ∃ z : Sg, z = up2 g 4 (x5).toNatClampNeg ((g 4 (x5).toNatClampNeg) ||| x4) := ⟨_, rfl⟩
          replace hw := hw g_4 hg
          have hP : va_P (dC, dI) vwCl (XL h ad ca tc cl tr g_4) H := by rw [hg]; exact hP
          have hD : va_D A (XL h ad ca tc cl tr g_4) := by rw [hg]; exact hD
          clear hg
          exact jn_94 _ x3 x4 x5 g_4 hB H locs ls hw hP hD hS (lv_sub hl [0, 1, 2, 3] rfl)
  subst hargs
  unfold wX_lay at hw
  have hl := lv_entry ([.ref h, .int x1, .int x2]) (n := 6) (Nat.le_of_ble_eq_true rfl)
  rw [lg_entry_eq]
  generalize (lg_sl ([.ref h, .int x1, .int x2]) ++ List.replicate (6 - (lg_sl ([.ref h, .int x1, .int x2])).length) Slot.unset).toArray = ls at hl ⊢
  have hl : lv_has ls 6 [(0, .ref h), (1, .int x1), (2, .int x2)] := hl
  obtain ⟨H, hHe⟩ : ∃ z : Heap, z = s.heap := ⟨_, rfl⟩
  obtain ⟨locs, hLe⟩ : ∃ z : List Loc, z = [] := ⟨_, rfl⟩
  have hS : va_S A s.heap H locs := by rw [hHe, hLe]; exact hS
  have hP : va_P (dC, dI) vwCl (XL h ad ca tc cl tr g) H := by rw [hHe]; exact hP
  have hgo : W p l e (headSpec wsX0_lay ({ frames := 1, cells := 0, slots := 0, locals := 21 })).room s m ([.ref h, .int x1, .int x2] : List Value).toArray below meth c H locs 0 0 (MQ below (va_Qi (fun (r : Int32) (u : Sg) => P r u) (at_X1 dC dI A h ad ca tc cl tr) A) ([.ref h, .int x1, .int x2] : List Value).toArray s 0 0 A) (F0 m 0 ls []) := by
    clear hHe hLe
    refine lv_aload_n hx hb dX0_lay_0 rfl (lv_at hl 0 rfl) ?_
    refine lv_iload_n hx hb dX0_lay_1 rfl (lv_at hl 1 rfl) ?_
    refine vp_callSi (W.runV (As := [.int x1]) (rest := []) ⟨hx, hb, hml, hown, hts⟩ (cX_isThing l dC dI h ad ca tc cl tr g x1 _ hw) (cwV 1 hts gX0_lay_X0_isThing rfl rfl rfl (by decide +kernel) ⟨Nat.le_of_ble_eq_true rfl, Nat.le_of_ble_eq_true rfl⟩) ⟨fun a U g mk q => by obtain ⟨q0, qP, qK⟩ := q; exact ⟨q0, qP, va_K.moved (u := U) (U := U.calling g mk a) (Vm.Alike.refl U.vm) qK⟩, va_recv hK hP (ci := 0) (q0 := 0) rfl rfl, fun U hU hW => ⟨rfl, by rw [hU]; exact hP, va_K.moved hW.alike hK⟩⟩ rfl rfl hl.1 rfl (lv_room (Nat.le_of_ble_eq_true rfl)) dX0_lay_2 ⟨Nat.zero_le _, Nat.zero_le _⟩) (fun r_5 hw => ?_)
    try dsimp only at hw
    refine lv_if_eq (tgt := 21) hx hb dX0_lay_5 (by decide) (fun hc => ?_) (fun hc => ?_)
    · replace hw := hw.1 hc
      clear hc
      refine lv_iconst (v := (-1 : Int32)) hx hb dX0_lay_21 (by decide) ?_
      exact W.iret (v := (-1 : Int32)) hx hb hr (fun t ht hW => ⟨⟨(-1 : Int32), g, rfl, hw, by rw [ht]; exact hP, va_K.moved hW.alike hK, hD⟩, hS.F ht⟩) hS.2.2 dX0_lay_22
    · replace hw := hw.2 hc
      clear hc
      refine lv_aload_n hx hb dX0_lay_8 rfl (lv_at hl 0 rfl) ?_
      refine lv_iload_n hx hb dX0_lay_9 rfl (lv_at hl 2 rfl) ?_
      refine vp_callSi (W.runV (As := [.int x2]) (rest := []) ⟨hx, hb, hml, hown, hts⟩ (cX_isThing l dC dI h ad ca tc cl tr g x2 _ hw) (cwV 1 hts gX0_lay_X0_isThing rfl rfl rfl (by decide +kernel) ⟨Nat.le_of_ble_eq_true rfl, Nat.le_of_ble_eq_true rfl⟩) ⟨fun a U g mk q => by obtain ⟨q0, qP, qK⟩ := q; exact ⟨q0, qP, va_K.moved (u := U) (U := U.calling g mk a) (Vm.Alike.refl U.vm) qK⟩, va_recv hK hP (ci := 0) (q0 := 0) rfl rfl, fun U hU hW => ⟨rfl, by rw [hU]; exact hP, va_K.moved hW.alike hK⟩⟩ rfl rfl hl.1 rfl (lv_room (Nat.le_of_ble_eq_true rfl)) dX0_lay_10 ⟨Nat.zero_le _, Nat.zero_le _⟩) (fun r_6 hw => ?_)
      try dsimp only at hw
      refine lv_if_eq (tgt := 21) hx hb dX0_lay_13 (by decide) (fun hc => ?_) (fun hc => ?_)
      · replace hw := hw.1 hc
        clear hc
        refine lv_iconst (v := (-1 : Int32)) hx hb dX0_lay_21 (by decide) ?_
        exact W.iret (v := (-1 : Int32)) hx hb hr (fun t ht hW => ⟨⟨(-1 : Int32), g, rfl, hw, by rw [ht]; exact hP, va_K.moved hW.alike hK, hD⟩, hS.F ht⟩) hS.2.2 dX0_lay_22
      · replace hw := hw.2 hc
        clear hc
        refine lv_iload_n hx hb dX0_lay_16 rfl (lv_at hl 1 rfl) ?_
        refine lv_iload_n hx hb dX0_lay_17 rfl (lv_at hl 2 rfl) ?_
        refine lv_icmp_lt (tgt := 23) hx hb dX0_lay_18 (by decide) (fun hc => ?_) (fun hc => ?_)
        · replace hw := hw.1 hc
          clear hc
          refine lv_aload_n hx hb dX0_lay_23 rfl (lv_at hl 0 rfl) ?_
          refine va_get (D := (dC, dI)) (ci := 0) (C := RX0) (T := TX0) (N := 13) hx hb hts inw hown hK hP 0 rfl rfl 3 (by decide) f13 (fun _ h9 => h9) rfl dX0_lay_24 ?_
          refine lv_iload_n hx hb dX0_lay_27 rfl (lv_at hl 2 rfl) ?_
          obtain ⟨hin, hw⟩ := hw
          refine va_iald hx hb hK hP 1 0 rfl rfl hin dX0_lay_28 ?_
          refine lv_iload_n hx hb dX0_lay_29 rfl (lv_at hl 1 rfl) ?_
          refine vp_callSi (W.runS (As := [.int ((g 3 (x2).toNatClampNeg)), .int x1]) (rest := []) ⟨hx, hb, hml, hown, hts⟩ (cX_has l (g 3 (x2).toNatClampNeg) x1 _ hw) (va_cwS 2 hts gX0_lay_X0_has rfl rfl rfl (by decide +kernel) ⟨Nat.le_of_ble_eq_true rfl, Nat.le_of_ble_eq_true rfl⟩) ⟨fun a U g mk q => q, fun U hU hW => ⟨rfl, trivial⟩⟩ rfl rfl hl.1 rfl (lv_room (Nat.le_of_ble_eq_true rfl)) dX0_lay_30 ⟨Nat.zero_le _, Nat.zero_le _⟩) (fun r_7 hw => ?_)
          try dsimp only at hw
          refine lv_if_eq (tgt := 38) hx hb dX0_lay_33 (by decide) (fun hc => ?_) (fun hc => ?_)
          · replace hw := hw.1 hc
            clear hc
            refine lv_aload_n hx hb dX0_lay_38 rfl (lv_at hl 0 rfl) ?_
            refine va_get (D := (dC, dI)) (ci := 0) (C := RX0) (T := TX0) (N := 13) hx hb hts inw hown hK hP 0 rfl rfl 3 (by decide) f13 (fun _ h9 => h9) rfl dX0_lay_39 ?_
            refine lv_iload_n hx hb dX0_lay_42 rfl (lv_at hl 1 rfl) ?_
            obtain ⟨hin, hw⟩ := hw
            refine va_iald hx hb hK hP 1 0 rfl rfl hin dX0_lay_43 ?_
            refine lv_iconst (v := (1 : Int32)) hx hb dX0_lay_44 (by decide) ?_
            refine lv_iload_n hx hb dX0_lay_45 rfl (lv_at hl 1 rfl) ?_
            refine lv_ishl hx hb dX0_lay_46 ?_
            refine lv_ior hx hb dX0_lay_47 ?_
            refine lv_topi (fun x3_8 hv => ?_)
            replace hw := hw x3_8 hv
            clear hv
            refine lv_istore_n (lv' := [(3, .int x3_8), (0, .ref h), (1, .int x1), (2, .int x2)]) hx hb dX0_lay_48 rfl hl (by decide) rfl (fun ls hl => ?_)
            refine lv_aload_n hx hb dX0_lay_49 rfl (lv_at hl 1 rfl) ?_
            refine va_get (D := (dC, dI)) (ci := 0) (C := RX0) (T := TX0) (N := 13) hx hb hts inw hown hK hP 0 rfl rfl 4 (by decide) f17 (fun _ h9 => h9) rfl dX0_lay_50 ?_
            refine lv_iload_n hx hb dX0_lay_53 rfl (lv_at hl 3 rfl) ?_
            obtain ⟨hin, hw⟩ := hw
            refine va_iald hx hb hK hP 2 1 rfl rfl hin dX0_lay_54 ?_
            refine lv_iconst (v := (1 : Int32)) hx hb dX0_lay_55 (by decide) ?_
            refine lv_iload_n hx hb dX0_lay_56 rfl (lv_at hl 3 rfl) ?_
            refine lv_ishl hx hb dX0_lay_57 ?_
            refine lv_ior hx hb dX0_lay_58 ?_
            refine lv_topi (fun x4_9 hv => ?_)
            replace hw := hw x4_9 hv
            clear hv
            refine lv_istore (lv' := [(4, .int x4_9), (3, .int x3_8), (0, .ref h), (1, .int x1), (2, .int x2)]) hx hb dX0_lay_59 hl (by decide) rfl (fun ls hl => ?_)
            refine lv_iconst (v := (0 : Int32)) hx hb dX0_lay_61 (by decide) ?_
            refine lv_istore (lv' := [(5, .int (0 : Int32)), (4, .int x4_9), (3, .int x3_8), (0, .ref h), (1, .int x1), (2, .int x2)]) hx hb dX0_lay_62 hl (by decide) rfl (fun ls hl => ?_)
            obtain ⟨n_10, hw⟩ := hw
            exact lp_64 x3_8 x4_9 n_10 (0 : Int32) g H locs ls hw hP hD hS (lv_sub hl [3, 2, 1, 0] rfl)
          · replace hw := hw.2 hc
            clear hc
            refine lv_iconst (v := (0 : Int32)) hx hb dX0_lay_36 (by decide) ?_
            exact W.iret (v := (0 : Int32)) hx hb hr (fun t ht hW => ⟨⟨(0 : Int32), g, rfl, hw, by rw [ht]; exact hP, va_K.moved hW.alike hK, hD⟩, hS.F ht⟩) hS.2.2 dX0_lay_37
        · replace hw := hw.2 hc
          clear hc
          refine lv_iconst (v := (-1 : Int32)) hx hb dX0_lay_21 (by decide) ?_
          exact W.iret (v := (-1 : Int32)) hx hb hr (fun t ht hW => ⟨⟨(-1 : Int32), g, rfl, hw, by rw [ht]; exact hP, va_K.moved hW.alike hK, hD⟩, hS.F ht⟩) hS.2.2 dX0_lay_22
  rw [hHe, hLe] at hgo
  exact hgo
set_option maxHeartbeats 4000000 in
set_option maxRecDepth 100000 in
theorem cX_setCount (l : Launch) (dC : Nat → ClassId) (dI : Nat → Nat → Nat) (h : Nat) (ad : Nat → Nat) (ca : Nat → ClassId) (tc cl : Int32) (tr : Int64) (g : Sg) (P : Int32 → Prop) (hw : wX_setCount P tc cl tr g) : Met l yX0_setCount wsX0_setCount ({ frames := 0, cells := 0, slots := 0, locals := 0 }) (va_Pc [.ref h] (fun U => va_P (dC, dI) vwCl (XL h ad ca tc cl tr g) U.heap ∧ va_K (dC, dI) vwCl (XT ca) U)) (vp_Si P) 0 0 (fun _ => False) := by
  refine Met.ofW (cc := cX0_setCount) (maxL := 1) (ret := (some .int)) (by decide) rfl ?_
  intro p e s m args below meth c s₁ B0 hml hv
  obtain ⟨hargs, hP, hK⟩ := hv
  have hx := B0.exec
  have hb := B0.bytes
  have hr := B0.returns
  have hts := atoms_spec (ws := wsX0_setCount) B0.pre
  have hown : s.vm.findClass RX0 = some m.cls := findClass_of_methodNamed B0.named
  have hlocks := B0.notSynchronized
  have inw : ∀ w ∈ wsX00, w ∈ wsX0_setCount := fun w h => List.mem_cons_of_mem _ (List.mem_append_right _ h)
  have f9 : (Cond.fieldLink RX0 9 "FlipHeaps" "thingCount" "I").before args s = true := hts _ (by decide +kernel)
  subst hargs
  unfold wX_setCount at hw
  have hl := lv_entry ([.ref h]) (n := 1) (Nat.le_of_ble_eq_true rfl)
  rw [lg_entry_eq]
  generalize (lg_sl ([.ref h]) ++ List.replicate (1 - (lg_sl ([.ref h])).length) Slot.unset).toArray = ls at hl ⊢
  have hl : lv_has ls 1 [(0, .ref h)] := hl
  refine lv_iconst (v := (1 : Int32)) hx hb dX0_setCount_0 (by decide) ?_
  refine lv_aload_n hx hb dX0_setCount_1 rfl (lv_at hl 0 rfl) ?_
  refine va_get (D := (dC, dI)) (ci := 0) (C := RX0) (T := TX0) (N := 13) hx hb hts inw hown hK hP 0 rfl rfl 0 (by decide) f9 (fun _ h9 => h9) rfl dX0_setCount_2 ?_
  refine lv_ishl hx hb dX0_setCount_5 ?_
  exact W.iret (v := ((1 : Int32) <<< (tc &&& 31))) hx hb hr (fun t ht hW => ⟨_, rfl, hw, ht⟩) (fun q h => absurd h List.not_mem_nil) dX0_setCount_6
set_option maxHeartbeats 4000000 in
set_option maxRecDepth 100000 in
theorem cX_isSet (l : Launch) (dC : Nat → ClassId) (dI : Nat → Nat → Nat) (h : Nat) (ad : Nat → Nat) (ca : Nat → ClassId) (tc cl : Int32) (tr : Int64) (g : Sg) (x1 : Int32) (P : Int32 → Prop) (hw : wX_isSet P tc cl tr g x1) : Met l yX0_isSet wsX0_isSet ({ frames := 1, cells := 0, slots := 0, locals := 20 }) (va_Pc [.ref h, .int x1] (fun U => va_P (dC, dI) vwCl (XL h ad ca tc cl tr g) U.heap ∧ va_K (dC, dI) vwCl (XT ca) U)) (vp_Si P) 0 0 (fun _ => False) := by
  refine Met.ofW (cc := cX0_isSet) (maxL := 2) (ret := (some .boolean)) (by decide) rfl ?_
  intro p e s m args below meth c s₁ B0 hml hv
  obtain ⟨hargs, hP, hK⟩ := hv
  have hx := B0.exec
  have hb := B0.bytes
  have hr := B0.returns
  have hts := atoms_spec (ws := wsX0_isSet) B0.pre
  have hown : s.vm.findClass RX0 = some m.cls := findClass_of_methodNamed B0.named
  have hlocks := B0.notSynchronized
  have inw : ∀ w ∈ wsX00, w ∈ wsX0_isSet := fun w h => List.mem_cons_of_mem _ (List.mem_append_right _ h)
  subst hargs
  unfold wX_isSet at hw
  have hl := lv_entry ([.ref h, .int x1]) (n := 2) (Nat.le_of_ble_eq_true rfl)
  rw [lg_entry_eq]
  generalize (lg_sl ([.ref h, .int x1]) ++ List.replicate (2 - (lg_sl ([.ref h, .int x1])).length) Slot.unset).toArray = ls at hl ⊢
  have hl : lv_has ls 2 [(0, .ref h), (1, .int x1)] := hl
  refine lv_iload_n hx hb dX0_isSet_0 rfl (lv_at hl 1 rfl) ?_
  refine lv_if_lt (tgt := 16) hx hb dX0_isSet_1 (by decide) (fun hc => ?_) (fun hc => ?_)
  · replace hw := hw.1 hc
    clear hc
    refine lv_iconst (v := (0 : Int32)) hx hb dX0_isSet_16 (by decide) ?_
    exact W.zret (v := (0 : Int32)) hx hb hr rfl (fun t ht hW => ⟨_, rfl, hw, ht⟩) (fun q h => absurd h List.not_mem_nil) dX0_isSet_17
  · replace hw := hw.2 hc
    clear hc
    refine lv_iload_n hx hb dX0_isSet_4 rfl (lv_at hl 1 rfl) ?_
    refine lv_aload_n hx hb dX0_isSet_5 rfl (lv_at hl 0 rfl) ?_
    refine vp_callSi (W.runV (As := []) (rest := [.int x1]) ⟨hx, hb, hml, hown, hts⟩ (cX_setCount l dC dI h ad ca tc cl tr g _ hw) (cwV 0 hts gX0_isSet_X0_setCount rfl rfl rfl (by decide +kernel) ⟨Nat.le_of_ble_eq_true rfl, Nat.le_of_ble_eq_true rfl⟩) ⟨fun a U g mk q => by obtain ⟨q0, qP, qK⟩ := q; exact ⟨q0, qP, va_K.moved (u := U) (U := U.calling g mk a) (Vm.Alike.refl U.vm) qK⟩, va_recv hK hP (ci := 0) (q0 := 0) rfl rfl, fun U hU hW => ⟨rfl, by rw [hU]; exact hP, va_K.moved hW.alike hK⟩⟩ rfl rfl hl.1 rfl (lv_room (Nat.le_of_ble_eq_true rfl)) dX0_isSet_6 ⟨Nat.zero_le _, Nat.zero_le _⟩) (fun r_1 hw => ?_)
    try dsimp only at hw
    refine lv_icmp_ge (tgt := 16) hx hb dX0_isSet_9 (by decide) (fun hc => ?_) (fun hc => ?_)
    · replace hw := hw.1 hc
      clear hc
      refine lv_iconst (v := (0 : Int32)) hx hb dX0_isSet_16 (by decide) ?_
      exact W.zret (v := (0 : Int32)) hx hb hr rfl (fun t ht hW => ⟨_, rfl, hw, ht⟩) (fun q h => absurd h List.not_mem_nil) dX0_isSet_17
    · replace hw := hw.2 hc
      clear hc
      refine lv_iconst (v := (1 : Int32)) hx hb dX0_isSet_12 (by decide) ?_
      refine lv_goto (tgt := 17) hx hb dX0_isSet_13 (by decide) ?_
      exact W.zret (v := (1 : Int32)) hx hb hr rfl (fun t ht hW => ⟨_, rfl, hw, ht⟩) (fun q h => absurd h List.not_mem_nil) dX0_isSet_17
set_option maxHeartbeats 4000000 in
set_option maxRecDepth 100000 in
theorem cX_isHeap (l : Launch) (dC : Nat → ClassId) (dI : Nat → Nat → Nat) (h : Nat) (ad : Nat → Nat) (ca : Nat → ClassId) (tc cl : Int32) (tr : Int64) (g : Sg) (x1 : Int32) (P : Int32 → Prop) (hw : wX_isHeap P tc cl tr g x1) : Met l yX0_isHeap wsX0_isHeap ({ frames := 2, cells := 0, slots := 0, locals := 41 }) (va_Pc [.ref h, .int x1] (fun U => va_P (dC, dI) vwCl (XL h ad ca tc cl tr g) U.heap ∧ va_K (dC, dI) vwCl (XT ca) U)) (vp_Si P) 0 0 (fun _ => False) := by
  refine Met.ofW (cc := cX0_isHeap) (maxL := 3) (ret := (some .boolean)) (by decide) rfl ?_
  intro p e s m args below meth c s₁ B0 hml hv
  obtain ⟨hargs, hP, hK⟩ := hv
  have hx := B0.exec
  have hb := B0.bytes
  have hr := B0.returns
  have hts := atoms_spec (ws := wsX0_isHeap) B0.pre
  have hown : s.vm.findClass RX0 = some m.cls := findClass_of_methodNamed B0.named
  have hlocks := B0.notSynchronized
  have inw : ∀ w ∈ wsX00, w ∈ wsX0_isHeap := fun w h => List.mem_cons_of_mem _ (List.mem_append_right _ h)
  have f9 : (Cond.fieldLink RX0 9 "FlipHeaps" "thingCount" "I").before args s = true := hts _ (by decide +kernel)
  have f13 : (Cond.fieldLink RX0 13 "FlipHeaps" "under" "[I").before args s = true := hts _ (by decide +kernel)
  have lp_12 : ∀ (x1 : Int32), ∀ (n : Nat) (x2 : Int32) (ls : Array Slot), Lp1 (wX_isHeap_b12 P tc cl tr g x1) n x2 → lv_has ls 3 [(0, .ref h), (1, .int x1), (2, .int x2)] → W p l e (headSpec wsX0_isHeap ({ frames := 2, cells := 0, slots := 0, locals := 41 })).room s m args below meth c s.heap [] 0 0 (MQ below (vp_Si P) args s 0 0 (fun _ => False)) (F0 m 12 ls []) := by
    intro x1
    intro n
    induction n with
    | zero => intro x2 ls hw; exact False.elim hw
    | succ n hB =>
      intro x2 ls hw hl
      replace hw : wX_isHeap_b12 P tc cl tr g x1 (Lp1 (wX_isHeap_b12 P tc cl tr g x1) n) x2 := hw
      unfold wX_isHeap_b12 at hw
      refine lv_iload_n hx hb dX0_isHeap_12 rfl (lv_at hl 2 rfl) ?_
      refine lv_aload_n hx hb dX0_isHeap_13 rfl (lv_at hl 0 rfl) ?_
      refine va_get (D := (dC, dI)) (ci := 0) (C := RX0) (T := TX0) (N := 13) hx hb hts inw hown hK hP 0 rfl rfl 0 (by decide) f9 (fun _ h9 => h9) rfl dX0_isHeap_14 ?_
      refine lv_icmp_ge (tgt := 49) hx hb dX0_isHeap_17 (by decide) (fun hc => ?_) (fun hc => ?_)
      · replace hw := hw.1 hc
        clear hc
        refine lv_iconst (v := (1 : Int32)) hx hb dX0_isHeap_49 (by decide) ?_
        exact W.zret (v := (1 : Int32)) hx hb hr rfl (fun t ht hW => ⟨_, rfl, hw, ht⟩) (fun q h => absurd h List.not_mem_nil) dX0_isHeap_50
      · replace hw := hw.2 hc
        clear hc
        refine lv_iload_n hx hb dX0_isHeap_20 rfl (lv_at hl 1 rfl) ?_
        refine lv_iload_n hx hb dX0_isHeap_21 rfl (lv_at hl 2 rfl) ?_
        refine vp_callSi (W.runS (As := [.int x1, .int x2]) (rest := []) ⟨hx, hb, hml, hown, hts⟩ (cX_has l x1 x2 _ hw) (va_cwS 2 hts gX0_isHeap_X0_has rfl rfl rfl (by decide +kernel) ⟨Nat.le_of_ble_eq_true rfl, Nat.le_of_ble_eq_true rfl⟩) ⟨fun a U g mk q => q, fun U hU hW => ⟨rfl, trivial⟩⟩ rfl rfl hl.1 rfl (lv_room (Nat.le_of_ble_eq_true rfl)) dX0_isHeap_22 ⟨Nat.zero_le _, Nat.zero_le _⟩) (fun r_1 hw => ?_)
        try dsimp only at hw
        refine lv_if_eq (tgt := 43) hx hb dX0_isHeap_25 (by decide) (fun hc => ?_) (fun hc => ?_)
        · replace hw := hw.1 hc
          clear hc
          refine lv_iinc (v := (x2 + 1)) (lv' := [(2, .int ((x2 + 1))), (0, .ref h), (1, .int x1)]) hx hb dX0_isHeap_43 hl (k := 2) rfl rfl (by decide) rfl (fun ls hl => ?_)
          refine lv_goto (tgt := 12) hx hb dX0_isHeap_46 (by decide) ?_
          exact hB (x2 + 1) ls hw (lv_sub hl [1, 2, 0] rfl)
        · replace hw := hw.2 hc
          clear hc
          refine lv_aload_n hx hb dX0_isHeap_28 rfl (lv_at hl 0 rfl) ?_
          refine va_get (D := (dC, dI)) (ci := 0) (C := RX0) (T := TX0) (N := 13) hx hb hts inw hown hK hP 0 rfl rfl 3 (by decide) f13 (fun _ h9 => h9) rfl dX0_isHeap_29 ?_
          refine lv_iload_n hx hb dX0_isHeap_32 rfl (lv_at hl 2 rfl) ?_
          obtain ⟨hin, hw⟩ := hw
          refine va_iald hx hb hK hP 1 0 rfl rfl hin dX0_isHeap_33 ?_
          refine lv_iload_n hx hb dX0_isHeap_34 rfl (lv_at hl 1 rfl) ?_
          refine lv_iconst (v := (-1 : Int32)) hx hb dX0_isHeap_35 (by decide) ?_
          refine lv_ixor hx hb dX0_isHeap_36 ?_
          refine lv_iand hx hb dX0_isHeap_37 ?_
          refine lv_if_eq (tgt := 43) hx hb dX0_isHeap_38 (by decide) (fun hc => ?_) (fun hc => ?_)
          · replace hw := hw.1 hc
            clear hc
            refine lv_iinc (v := (x2 + 1)) (lv' := [(2, .int ((x2 + 1))), (0, .ref h), (1, .int x1)]) hx hb dX0_isHeap_43 hl (k := 2) rfl rfl (by decide) rfl (fun ls hl => ?_)
            refine lv_goto (tgt := 12) hx hb dX0_isHeap_46 (by decide) ?_
            exact hB (x2 + 1) ls hw (lv_sub hl [1, 2, 0] rfl)
          · replace hw := hw.2 hc
            clear hc
            refine lv_iconst (v := (0 : Int32)) hx hb dX0_isHeap_41 (by decide) ?_
            exact W.zret (v := (0 : Int32)) hx hb hr rfl (fun t ht hW => ⟨_, rfl, hw, ht⟩) (fun q h => absurd h List.not_mem_nil) dX0_isHeap_42
  subst hargs
  unfold wX_isHeap at hw
  have hl := lv_entry ([.ref h, .int x1]) (n := 3) (Nat.le_of_ble_eq_true rfl)
  rw [lg_entry_eq]
  generalize (lg_sl ([.ref h, .int x1]) ++ List.replicate (3 - (lg_sl ([.ref h, .int x1])).length) Slot.unset).toArray = ls at hl ⊢
  have hl : lv_has ls 3 [(0, .ref h), (1, .int x1)] := hl
  refine lv_aload_n hx hb dX0_isHeap_0 rfl (lv_at hl 0 rfl) ?_
  refine lv_iload_n hx hb dX0_isHeap_1 rfl (lv_at hl 1 rfl) ?_
  refine vp_callSi (W.runV (As := [.int x1]) (rest := []) ⟨hx, hb, hml, hown, hts⟩ (cX_isSet l dC dI h ad ca tc cl tr g x1 _ hw) (cwV 1 hts gX0_isHeap_X0_isSet rfl rfl rfl (by decide +kernel) ⟨Nat.le_of_ble_eq_true rfl, Nat.le_of_ble_eq_true rfl⟩) ⟨fun a U g mk q => by obtain ⟨q0, qP, qK⟩ := q; exact ⟨q0, qP, va_K.moved (u := U) (U := U.calling g mk a) (Vm.Alike.refl U.vm) qK⟩, va_recv hK hP (ci := 0) (q0 := 0) rfl rfl, fun U hU hW => ⟨rfl, by rw [hU]; exact hP, va_K.moved hW.alike hK⟩⟩ rfl rfl hl.1 rfl (lv_room (Nat.le_of_ble_eq_true rfl)) dX0_isHeap_2 ⟨Nat.zero_le _, Nat.zero_le _⟩) (fun r_2 hw => ?_)
  try dsimp only at hw
  refine lv_if_ne (tgt := 10) hx hb dX0_isHeap_5 (by decide) (fun hc => ?_) (fun hc => ?_)
  · replace hw := hw.1 hc
    clear hc
    refine lv_iconst (v := (0 : Int32)) hx hb dX0_isHeap_10 (by decide) ?_
    refine lv_istore_n (lv' := [(2, .int (0 : Int32)), (0, .ref h), (1, .int x1)]) hx hb dX0_isHeap_11 rfl hl (by decide) rfl (fun ls hl => ?_)
    obtain ⟨n_3, hw⟩ := hw
    exact lp_12 x1 n_3 (0 : Int32) ls hw (lv_sub hl [1, 2, 0] rfl)
  · replace hw := hw.2 hc
    clear hc
    refine lv_iconst (v := (0 : Int32)) hx hb dX0_isHeap_8 (by decide) ?_
    exact W.zret (v := (0 : Int32)) hx hb hr rfl (fun t ht hW => ⟨_, rfl, hw, ht⟩) (fun q h => absurd h List.not_mem_nil) dX0_isHeap_9
set_option maxHeartbeats 4000000 in
set_option maxRecDepth 100000 in
theorem cX_many (l : Launch) (dC : Nat → ClassId) (dI : Nat → Nat → Nat) (h : Nat) (ad : Nat → Nat) (ca : Nat → ClassId) (tc cl : Int32) (tr : Int64) (g : Sg) (P : Int32 → Prop) (hw : wX_many P tc cl tr g) : Met l yX0_many wsX0_many ({ frames := 3, cells := 0, slots := 0, locals := 63 }) (va_Pc [.ref h] (fun U => va_P (dC, dI) vwCl (XL h ad ca tc cl tr g) U.heap ∧ va_K (dC, dI) vwCl (XT ca) U)) (vp_Si P) 0 0 (fun _ => False) := by
  refine Met.ofW (cc := cX0_many) (maxL := 3) (ret := (some .int)) (by decide) rfl ?_
  intro p e s m args below meth c s₁ B0 hml hv
  obtain ⟨hargs, hP, hK⟩ := hv
  have hx := B0.exec
  have hb := B0.bytes
  have hr := B0.returns
  have hts := atoms_spec (ws := wsX0_many) B0.pre
  have hown : s.vm.findClass RX0 = some m.cls := findClass_of_methodNamed B0.named
  have hlocks := B0.notSynchronized
  have inw : ∀ w ∈ wsX00, w ∈ wsX0_many := fun w h => List.mem_cons_of_mem _ (List.mem_append_right _ h)
  have lp_4 : ∀ (n : Nat) (x1 : Int32) (x2 : Int32) (ls : Array Slot), Lp2 (wX_many_b4 P tc cl tr g) n x1 x2 → lv_has ls 3 [(0, .ref h), (1, .int x1), (2, .int x2)] → W p l e (headSpec wsX0_many ({ frames := 3, cells := 0, slots := 0, locals := 63 })).room s m args below meth c s.heap [] 0 0 (MQ below (vp_Si P) args s 0 0 (fun _ => False)) (F0 m 4 ls []) := by
    intro n
    induction n with
    | zero => intro x1 x2 ls hw; exact False.elim hw
    | succ n hB =>
      intro x1 x2 ls hw hl
      replace hw : wX_many_b4 P tc cl tr g (Lp2 (wX_many_b4 P tc cl tr g) n) x1 x2 := hw
      unfold wX_many_b4 at hw
      refine lv_iload_n hx hb dX0_many_4 rfl (lv_at hl 2 rfl) ?_
      refine lv_aload_n hx hb dX0_many_5 rfl (lv_at hl 0 rfl) ?_
      refine vp_callSi (W.runV (As := []) (rest := [.int x2]) ⟨hx, hb, hml, hown, hts⟩ (cX_setCount l dC dI h ad ca tc cl tr g _ hw) (cwV 0 hts gX0_many_X0_setCount rfl rfl rfl (by decide +kernel) ⟨Nat.le_of_ble_eq_true rfl, Nat.le_of_ble_eq_true rfl⟩) ⟨fun a U g mk q => by obtain ⟨q0, qP, qK⟩ := q; exact ⟨q0, qP, va_K.moved (u := U) (U := U.calling g mk a) (Vm.Alike.refl U.vm) qK⟩, va_recv hK hP (ci := 0) (q0 := 0) rfl rfl, fun U hU hW => ⟨rfl, by rw [hU]; exact hP, va_K.moved hW.alike hK⟩⟩ rfl rfl hl.1 rfl (lv_room (Nat.le_of_ble_eq_true rfl)) dX0_many_6 ⟨Nat.zero_le _, Nat.zero_le _⟩) (fun r_1 hw => ?_)
      try dsimp only at hw
      refine lv_icmp_ge (tgt := 29) hx hb dX0_many_9 (by decide) (fun hc => ?_) (fun hc => ?_)
      · replace hw := hw.1 hc
        clear hc
        refine lv_iload_n hx hb dX0_many_29 rfl (lv_at hl 1 rfl) ?_
        exact W.iret (v := x1) hx hb hr (fun t ht hW => ⟨_, rfl, hw, ht⟩) (fun q h => absurd h List.not_mem_nil) dX0_many_30
      · replace hw := hw.2 hc
        clear hc
        refine lv_aload_n hx hb dX0_many_12 rfl (lv_at hl 0 rfl) ?_
        refine lv_iload_n hx hb dX0_many_13 rfl (lv_at hl 2 rfl) ?_
        refine vp_callSi (W.runV (As := [.int x2]) (rest := []) ⟨hx, hb, hml, hown, hts⟩ (cX_isHeap l dC dI h ad ca tc cl tr g x2 _ hw) (cwV 1 hts gX0_many_X0_isHeap rfl rfl rfl (by decide +kernel) ⟨Nat.le_of_ble_eq_true rfl, Nat.le_of_ble_eq_true rfl⟩) ⟨fun a U g mk q => by obtain ⟨q0, qP, qK⟩ := q; exact ⟨q0, qP, va_K.moved (u := U) (U := U.calling g mk a) (Vm.Alike.refl U.vm) qK⟩, va_recv hK hP (ci := 0) (q0 := 0) rfl rfl, fun U hU hW => ⟨rfl, by rw [hU]; exact hP, va_K.moved hW.alike hK⟩⟩ rfl rfl hl.1 rfl (lv_room (Nat.le_of_ble_eq_true rfl)) dX0_many_14 ⟨Nat.zero_le _, Nat.zero_le _⟩) (fun r_2 hw => ?_)
        try dsimp only at hw
        refine lv_if_eq (tgt := 23) hx hb dX0_many_17 (by decide) (fun hc => ?_) (fun hc => ?_)
        · replace hw := hw.1 hc
          clear hc
          refine lv_iinc (v := (x2 + 1)) (lv' := [(2, .int ((x2 + 1))), (0, .ref h), (1, .int x1)]) hx hb dX0_many_23 hl (k := 2) rfl rfl (by decide) rfl (fun ls hl => ?_)
          refine lv_goto (tgt := 4) hx hb dX0_many_26 (by decide) ?_
          exact hB x1 (x2 + 1) ls hw (lv_sub hl [1, 2, 0] rfl)
        · replace hw := hw.2 hc
          clear hc
          refine lv_iinc (v := (x1 + 1)) (lv' := [(1, .int ((x1 + 1))), (0, .ref h), (2, .int x2)]) hx hb dX0_many_20 hl (k := 1) rfl rfl (by decide) rfl (fun ls hl => ?_)
          refine lv_iinc (v := (x2 + 1)) (lv' := [(2, .int ((x2 + 1))), (1, .int ((x1 + 1))), (0, .ref h)]) hx hb dX0_many_23 hl (k := 2) rfl rfl (by decide) rfl (fun ls hl => ?_)
          refine lv_goto (tgt := 4) hx hb dX0_many_26 (by decide) ?_
          exact hB (x1 + 1) (x2 + 1) ls hw (lv_sub hl [2, 1, 0] rfl)
  subst hargs
  unfold wX_many at hw
  have hl := lv_entry ([.ref h]) (n := 3) (Nat.le_of_ble_eq_true rfl)
  rw [lg_entry_eq]
  generalize (lg_sl ([.ref h]) ++ List.replicate (3 - (lg_sl ([.ref h])).length) Slot.unset).toArray = ls at hl ⊢
  have hl : lv_has ls 3 [(0, .ref h)] := hl
  refine lv_iconst (v := (0 : Int32)) hx hb dX0_many_0 (by decide) ?_
  refine lv_istore_n (lv' := [(1, .int (0 : Int32)), (0, .ref h)]) hx hb dX0_many_1 rfl hl (by decide) rfl (fun ls hl => ?_)
  refine lv_iconst (v := (0 : Int32)) hx hb dX0_many_2 (by decide) ?_
  refine lv_istore_n (lv' := [(2, .int (0 : Int32)), (1, .int (0 : Int32)), (0, .ref h)]) hx hb dX0_many_3 rfl hl (by decide) rfl (fun ls hl => ?_)
  obtain ⟨n_3, hw⟩ := hw
  exact lp_4 n_3 (0 : Int32) (0 : Int32) ls hw (lv_sub hl [2, 1, 0] rfl)
set_option maxHeartbeats 4000000 in
set_option maxRecDepth 100000 in
theorem cX_things (l : Launch) (dC : Nat → ClassId) (dI : Nat → Nat → Nat) (h : Nat) (ad : Nat → Nat) (ca : Nat → ClassId) (sz : Nat) (tc cl : Int32) (tr : Int64) (g : Sg) (x1 : Int32) (P : Int32 → Int32 → Int32 → Int64 → Sg → Prop) (hw : wX_things P tc cl tr g x1) : Met l yX0_things wsX0_things ({ frames := 0, cells := 0, slots := 0, locals := 0 }) (va_Pc [.ref h, .int x1] (fun U => U.heap.size = sz ∧ va_P (dC, dI) vwCl (XL h ad ca tc cl tr g) U.heap ∧ va_K (dC, dI) vwCl (XT ca) U ∧ va_D (fun _ => True) (XL h ad ca tc cl tr g))) (va_Qi (fun (r : Int32) (u : Int32 × Int32 × Int64 × Sg) => P r u.1 u.2.1 u.2.2.1 u.2.2.2) (at_X2 dC dI (va_A (XL h ad ca tc cl tr g) sz) h ad ca) (va_A (XL h ad ca tc cl tr g) sz)) 0 0 (va_A (XL h ad ca tc cl tr g) sz) := by
  refine Met.ofW (cc := cX0_things) (maxL := 4) (ret := (some .int)) (by decide) rfl ?_
  intro p e s m args below meth c s₁ B0 hml hv
  obtain ⟨hargs, hsz, hP, hK, hD0⟩ := hv
  have hx := B0.exec
  have hb := B0.bytes
  have hr := B0.returns
  have hts := atoms_spec (ws := wsX0_things) B0.pre
  have hown : s.vm.findClass RX0 = some m.cls := findClass_of_methodNamed B0.named
  have hlocks := B0.notSynchronized
  have inw : ∀ w ∈ wsX00, w ∈ wsX0_things := fun w h => List.mem_cons_of_mem _ (List.mem_append_right _ h)
  have f9 : (Cond.fieldLink RX0 9 "FlipHeaps" "thingCount" "I").before args s = true := hts _ (by decide +kernel)
  have f13 : (Cond.fieldLink RX0 13 "FlipHeaps" "under" "[I").before args s = true := hts _ (by decide +kernel)
  have f17 : (Cond.fieldLink RX0 17 "FlipHeaps" "over" "[I").before args s = true := hts _ (by decide +kernel)
  have f20 : (Cond.fieldLink RX0 20 "FlipHeaps" "weights" "[I").before args s = true := hts _ (by decide +kernel)
  have f45 : (Cond.fieldLink RX0 45 "FlipHeaps" "chainLength" "I").before args s = true := hts _ (by decide +kernel)
  subst hsz
  have hD := hD0.self (sz := s.heap.size)
  generalize hAe : va_A (XL h ad ca tc cl tr g) s.heap.size = A at hD ⊢
  have hA : ∀ q : Nat, s.heap.size ≤ q → A q := fun q h => by rw [← hAe]; exact Or.inr h
  clear hAe hD0
  have hS : va_S A s.heap s.heap [] := va_S.rf
  have lp_20 : ∀ (x1 : Int32) (x2 : Int32) (K53 : Int32 → Int32 → Int64 → Sg → Prop) (hK53 : ∀ (tc : Int32) (cl : Int32) (tr : Int64) (g : Sg) (H : Heap) (locs : List Loc) (ls : Array Slot), K53 tc cl tr g → va_P (dC, dI) vwCl (XL h ad ca tc cl tr g) H → va_D A (XL h ad ca tc cl tr g) → va_S A s.heap H locs → lv_has ls 4 [(0, .ref h), (1, .int x1), (2, .int x2)] → W p l e (headSpec wsX0_things ({ frames := 0, cells := 0, slots := 0, locals := 0 })).room s m args below meth c H locs 0 0 (MQ below (va_Qi (fun (r : Int32) (u : Int32 × Int32 × Int64 × Sg) => P r u.1 u.2.1 u.2.2.1 u.2.2.2) (at_X2 dC dI A h ad ca) A) args s 0 0 A) (F0 m 53 ls [])), ∀ (n : Nat) (x3 : Int32) (tc : Int32) (cl : Int32) (tr : Int64) (g : Sg) (H : Heap) (locs : List Loc) (ls : Array Slot), Lp5 (wX_things_b20 P x1 x2 K53) n x3 tc cl tr g → va_P (dC, dI) vwCl (XL h ad ca tc cl tr g) H → va_D A (XL h ad ca tc cl tr g) → va_S A s.heap H locs → lv_has ls 4 [(0, .ref h), (1, .int x1), (2, .int x2), (3, .int x3)] → W p l e (headSpec wsX0_things ({ frames := 0, cells := 0, slots := 0, locals := 0 })).room s m args below meth c H locs 0 0 (MQ below (va_Qi (fun (r : Int32) (u : Int32 × Int32 × Int64 × Sg) => P r u.1 u.2.1 u.2.2.1 u.2.2.2) (at_X2 dC dI A h ad ca) A) args s 0 0 A) (F0 m 20 ls []) := by
    intro x1 x2 K53 hK53
    intro n
    induction n with
    | zero => intro x3 tc cl tr g H locs ls hw; exact False.elim hw
    | succ n hB =>
      intro x3 tc cl tr g H locs ls hw hP hD hS hl
      replace hw : wX_things_b20 P x1 x2 K53 (Lp5 (wX_things_b20 P x1 x2 K53) n) x3 tc cl tr g := hw
      unfold wX_things_b20 at hw
      refine lv_iload_n hx hb dX0_things_20 rfl (lv_at hl 3 rfl) ?_
      refine lv_bipush (v := (8 : Int32)) hx hb dX0_things_21 (by decide) ?_
      refine lv_icmp_ge (tgt := 53) hx hb dX0_things_23 (by decide) (fun hc => ?_) (fun hc => ?_)
      · replace hw := hw.1 hc
        clear hc
        exact hK53 tc cl tr g H locs ls hw hP hD hS (lv_sub hl [0, 1, 2] rfl)
      · replace hw := hw.2 hc
        clear hc
        refine lv_aload_n hx hb dX0_things_26 rfl (lv_at hl 0 rfl) ?_
        refine va_get (D := (dC, dI)) (ci := 0) (C := RX0) (T := TX0) (N := 13) hx hb hts inw hown hK hP 0 rfl rfl 3 (by decide) f13 (fun _ h9 => h9) rfl dX0_things_27 ?_
        refine lv_iload_n hx hb dX0_things_30 rfl (lv_at hl 3 rfl) ?_
        refine lv_iconst (v := (0 : Int32)) hx hb dX0_things_31 (by decide) ?_
        obtain ⟨hin, hw⟩ := hw
        refine va_iast hx hb hK hP hD hS 1 0 rfl rfl hin dX0_things_32 (fun H locs hP hD hS => ?_)
        obtain ⟨g_1, hg⟩ : ∃ z : Sg, z = up2 g 3 (x3).toNatClampNeg (0 : Int32) := ⟨_, rfl⟩
        replace hw := hw g_1 hg
        have hP : va_P (dC, dI) vwCl (XL h ad ca tc cl tr g_1) H := by rw [hg]; exact hP
        have hD : va_D A (XL h ad ca tc cl tr g_1) := by rw [hg]; exact hD
        clear hg
        refine lv_aload_n hx hb dX0_things_33 rfl (lv_at hl 0 rfl) ?_
        refine va_get (D := (dC, dI)) (ci := 0) (C := RX0) (T := TX0) (N := 13) hx hb hts inw hown hK hP 0 rfl rfl 4 (by decide) f17 (fun _ h9 => h9) rfl dX0_things_34 ?_
        refine lv_iload_n hx hb dX0_things_37 rfl (lv_at hl 3 rfl) ?_
        refine lv_iconst (v := (0 : Int32)) hx hb dX0_things_38 (by decide) ?_
        obtain ⟨hin, hw⟩ := hw
        refine va_iast hx hb hK hP hD hS 2 1 rfl rfl hin dX0_things_39 (fun H locs hP hD hS => ?_)
        obtain ⟨g_2, hg⟩ : ∃ z : Sg, z = up2 g_1 4 (x3).toNatClampNeg (0 : Int32) := ⟨_, rfl⟩
        replace hw := hw g_2 hg
        have hP : va_P (dC, dI) vwCl (XL h ad ca tc cl tr g_2) H := by rw [hg]; exact hP
        have hD : va_D A (XL h ad ca tc cl tr g_2) := by rw [hg]; exact hD
        clear hg
        refine lv_aload_n hx hb dX0_things_40 rfl (lv_at hl 0 rfl) ?_
        refine va_get (D := (dC, dI)) (ci := 0) (C := RX0) (T := TX0) (N := 13) hx hb hts inw hown hK hP 0 rfl rfl 5 (by decide) f20 (fun _ h9 => h9) rfl dX0_things_41 ?_
        refine lv_iload_n hx hb dX0_things_44 rfl (lv_at hl 3 rfl) ?_
        refine lv_iconst (v := (0 : Int32)) hx hb dX0_things_45 (by decide) ?_
        obtain ⟨hin, hw⟩ := hw
        refine va_iast hx hb hK hP hD hS 3 2 rfl rfl hin dX0_things_46 (fun H locs hP hD hS => ?_)
        obtain ⟨g_3, hg⟩ : ∃ z : Sg, z = up2 g_2 5 (x3).toNatClampNeg (0 : Int32) := ⟨_, rfl⟩
        replace hw := hw g_3 hg
        have hP : va_P (dC, dI) vwCl (XL h ad ca tc cl tr g_3) H := by rw [hg]; exact hP
        have hD : va_D A (XL h ad ca tc cl tr g_3) := by rw [hg]; exact hD
        clear hg
        refine lv_iinc (v := (x3 + 1)) (lv' := [(3, .int ((x3 + 1))), (0, .ref h), (1, .int x1), (2, .int x2)]) hx hb dX0_things_47 hl (k := 3) rfl rfl (by decide) rfl (fun ls hl => ?_)
        refine lv_goto (tgt := 20) hx hb dX0_things_50 (by decide) ?_
        exact hB (x3 + 1) tc cl tr g_3 H locs ls hw hP hD hS (lv_sub hl [1, 2, 3, 0] rfl)
  subst hargs
  unfold wX_things at hw
  have hl := lv_entry ([.ref h, .int x1]) (n := 4) (Nat.le_of_ble_eq_true rfl)
  rw [lg_entry_eq]
  generalize (lg_sl ([.ref h, .int x1]) ++ List.replicate (4 - (lg_sl ([.ref h, .int x1])).length) Slot.unset).toArray = ls at hl ⊢
  have hl : lv_has ls 4 [(0, .ref h), (1, .int x1)] := hl
  obtain ⟨H, hHe⟩ : ∃ z : Heap, z = s.heap := ⟨_, rfl⟩
  obtain ⟨locs, hLe⟩ : ∃ z : List Loc, z = [] := ⟨_, rfl⟩
  have hS : va_S A s.heap H locs := by rw [hHe, hLe]; exact hS
  have hP : va_P (dC, dI) vwCl (XL h ad ca tc cl tr g) H := by rw [hHe]; exact hP
  have hgo : W p l e (headSpec wsX0_things ({ frames := 0, cells := 0, slots := 0, locals := 0 })).room s m ([.ref h, .int x1] : List Value).toArray below meth c H locs 0 0 (MQ below (va_Qi (fun (r : Int32) (u : Int32 × Int32 × Int64 × Sg) => P r u.1 u.2.1 u.2.2.1 u.2.2.2) (at_X2 dC dI A h ad ca) A) ([.ref h, .int x1] : List Value).toArray s 0 0 A) (F0 m 0 ls []) := by
    clear hHe hLe
    refine lv_iload_n hx hb dX0_things_0 rfl (lv_at hl 1 rfl) ?_
    refine lv_iconst (v := (1 : Int32)) hx hb dX0_things_1 (by decide) ?_
    refine lv_icmp_lt (tgt := 11) hx hb dX0_things_2 (by decide) (fun hc => ?_) (fun hc => ?_)
    · replace hw := hw.1 hc
      clear hc
      refine lv_iconst (v := (-1 : Int32)) hx hb dX0_things_11 (by decide) ?_
      exact W.iret (v := (-1 : Int32)) hx hb hr (fun t ht hW => ⟨⟨(-1 : Int32), (tc, cl, tr, g), rfl, hw, by rw [ht]; exact hP, va_K.moved hW.alike hK, hD⟩, hS.F ht⟩) hS.2.2 dX0_things_12
    · replace hw := hw.2 hc
      clear hc
      refine lv_iload_n hx hb dX0_things_5 rfl (lv_at hl 1 rfl) ?_
      refine lv_bipush (v := (8 : Int32)) hx hb dX0_things_6 (by decide) ?_
      refine lv_icmp_le (tgt := 13) hx hb dX0_things_8 (by decide) (fun hc => ?_) (fun hc => ?_)
      · replace hw := hw.1 hc
        clear hc
        refine lv_aload_n hx hb dX0_things_13 rfl (lv_at hl 0 rfl) ?_
        refine va_get (D := (dC, dI)) (ci := 0) (C := RX0) (T := TX0) (N := 13) hx hb hts inw hown hK hP 0 rfl rfl 0 (by decide) f9 (fun _ h9 => h9) rfl dX0_things_14 ?_
        refine lv_istore_n (lv' := [(2, .int tc), (0, .ref h), (1, .int x1)]) hx hb dX0_things_17 rfl hl (by decide) rfl (fun ls hl => ?_)
        refine lv_iconst (v := (0 : Int32)) hx hb dX0_things_18 (by decide) ?_
        refine lv_istore_n (lv' := [(3, .int (0 : Int32)), (2, .int tc), (0, .ref h), (1, .int x1)]) hx hb dX0_things_19 rfl hl (by decide) rfl (fun ls hl => ?_)
        obtain ⟨n_8, hw⟩ := hw
        refine lp_20 x1 tc _ ?_ n_8 (0 : Int32) tc cl tr g H locs ls hw hP hD hS (lv_sub hl [2, 3, 1, 0] rfl)
        · intro tc_4 cl_5 tr_6 g_7 H locs ls hw hP hD hS hl
          try dsimp only at hw
          refine lv_aload_n hx hb dX0_things_53 rfl (lv_at hl 0 rfl) ?_
          refine lv_iload_n hx hb dX0_things_54 rfl (lv_at hl 1 rfl) ?_
          refine va_put (D := (dC, dI)) (ci := 0) (v := .int x1) (ty := .int) (C := RX0) (T := TX0) (N := 13) hx hb hts inw tyX0 tyX0_ok nmX0 hown hK hP hD hS 0 rfl rfl 0 (by decide) f9 (fun _ h9 => h9) rfl (by decide +kernel) rfl rfl (Nat.le_of_ble_eq_true rfl) dX0_things_55 (fun H locs hP hD hS => ?_)
          have hP : va_P (dC, dI) vwCl (XL h ad ca x1 cl_5 tr_6 g_7) H := hP
          have hD : va_D A (XL h ad ca x1 cl_5 tr_6 g_7) := hD
          refine lv_aload_n hx hb dX0_things_58 rfl (lv_at hl 0 rfl) ?_
          refine lv_iconst (v := (0 : Int32)) hx hb dX0_things_59 (by decide) ?_
          refine va_put (D := (dC, dI)) (ci := 0) (v := .int (0 : Int32)) (ty := .int) (C := RX0) (T := TX0) (N := 13) hx hb hts inw tyX0 tyX0_ok nmX0 hown hK hP hD hS 0 rfl rfl 1 (by decide) f45 (fun _ h9 => h9) rfl (by decide +kernel) rfl rfl (Nat.le_of_ble_eq_true rfl) dX0_things_60 (fun H locs hP hD hS => ?_)
          have hP : va_P (dC, dI) vwCl (XL h ad ca x1 (0 : Int32) tr_6 g_7) H := hP
          have hD : va_D A (XL h ad ca x1 (0 : Int32) tr_6 g_7) := hD
          refine lv_iload_n hx hb dX0_things_63 rfl (lv_at hl 2 rfl) ?_
          exact W.iret (v := tc) hx hb hr (fun t ht hW => ⟨⟨tc, (x1, (0 : Int32), tr_6, g_7), rfl, hw, by rw [ht]; exact hP, va_K.moved hW.alike hK, hD⟩, hS.F ht⟩) hS.2.2 dX0_things_64
      · replace hw := hw.2 hc
        clear hc
        refine lv_iconst (v := (-1 : Int32)) hx hb dX0_things_11 (by decide) ?_
        exact W.iret (v := (-1 : Int32)) hx hb hr (fun t ht hW => ⟨⟨(-1 : Int32), (tc, cl, tr, g), rfl, hw, by rw [ht]; exact hP, va_K.moved hW.alike hK, hD⟩, hS.F ht⟩) hS.2.2 dX0_things_12
  rw [hHe, hLe] at hgo
  exact hgo
set_option maxHeartbeats 4000000 in
set_option maxRecDepth 100000 in
theorem cX_say (l : Launch) (dC : Nat → ClassId) (dI : Nat → Nat → Nat) (h : Nat) (ad : Nat → Nat) (ca : Nat → ClassId) (sz : Nat) (tc cl : Int32) (tr : Int64) (g : Sg) (x1 : Int32) (P : Int32 → Int32 → Int32 → Int64 → Sg → Prop) (hw : wX_say P tc cl tr g x1) : Met l yX0_say wsX0_say ({ frames := 1, cells := 0, slots := 0, locals := 21 }) (va_Pc [.ref h, .int x1] (fun U => U.heap.size = sz ∧ va_P (dC, dI) vwCl (XL h ad ca tc cl tr g) U.heap ∧ va_K (dC, dI) vwCl (XT ca) U ∧ va_D (fun _ => True) (XL h ad ca tc cl tr g))) (va_Qi (fun (r : Int32) (u : Int32 × Int32 × Int64 × Sg) => P r u.1 u.2.1 u.2.2.1 u.2.2.2) (at_X2 dC dI (va_A (XL h ad ca tc cl tr g) sz) h ad ca) (va_A (XL h ad ca tc cl tr g) sz)) 0 0 (va_A (XL h ad ca tc cl tr g) sz) := by
  refine Met.ofW (cc := cX0_say) (maxL := 2) (ret := (some .int)) (by decide) rfl ?_
  intro p e s m args below meth c s₁ B0 hml hv
  obtain ⟨hargs, hsz, hP, hK, hD0⟩ := hv
  have hx := B0.exec
  have hb := B0.bytes
  have hr := B0.returns
  have hts := atoms_spec (ws := wsX0_say) B0.pre
  have hown : s.vm.findClass RX0 = some m.cls := findClass_of_methodNamed B0.named
  have hlocks := B0.notSynchronized
  have inw : ∀ w ∈ wsX00, w ∈ wsX0_say := fun w h => List.mem_cons_of_mem _ (List.mem_append_right _ h)
  have f23 : (Cond.fieldLink RX0 23 "FlipHeaps" "chain" "[I").before args s = true := hts _ (by decide +kernel)
  have f45 : (Cond.fieldLink RX0 45 "FlipHeaps" "chainLength" "I").before args s = true := hts _ (by decide +kernel)
  subst hsz
  have hD := hD0.self (sz := s.heap.size)
  generalize hAe : va_A (XL h ad ca tc cl tr g) s.heap.size = A at hD ⊢
  have hA : ∀ q : Nat, s.heap.size ≤ q → A q := fun q h => by rw [← hAe]; exact Or.inr h
  clear hAe hD0
  have hS : va_S A s.heap s.heap [] := va_S.rf
  subst hargs
  unfold wX_say at hw
  have hl := lv_entry ([.ref h, .int x1]) (n := 2) (Nat.le_of_ble_eq_true rfl)
  rw [lg_entry_eq]
  generalize (lg_sl ([.ref h, .int x1]) ++ List.replicate (2 - (lg_sl ([.ref h, .int x1])).length) Slot.unset).toArray = ls at hl ⊢
  have hl : lv_has ls 2 [(0, .ref h), (1, .int x1)] := hl
  obtain ⟨H, hHe⟩ : ∃ z : Heap, z = s.heap := ⟨_, rfl⟩
  obtain ⟨locs, hLe⟩ : ∃ z : List Loc, z = [] := ⟨_, rfl⟩
  have hS : va_S A s.heap H locs := by rw [hHe, hLe]; exact hS
  have hP : va_P (dC, dI) vwCl (XL h ad ca tc cl tr g) H := by rw [hHe]; exact hP
  have hgo : W p l e (headSpec wsX0_say ({ frames := 1, cells := 0, slots := 0, locals := 21 })).room s m ([.ref h, .int x1] : List Value).toArray below meth c H locs 0 0 (MQ below (va_Qi (fun (r : Int32) (u : Int32 × Int32 × Int64 × Sg) => P r u.1 u.2.1 u.2.2.1 u.2.2.2) (at_X2 dC dI A h ad ca) A) ([.ref h, .int x1] : List Value).toArray s 0 0 A) (F0 m 0 ls []) := by
    clear hHe hLe
    refine lv_aload_n hx hb dX0_say_0 rfl (lv_at hl 0 rfl) ?_
    refine lv_iload_n hx hb dX0_say_1 rfl (lv_at hl 1 rfl) ?_
    refine vp_callSi (W.runV (As := [.int x1]) (rest := []) ⟨hx, hb, hml, hown, hts⟩ (cX_isThing l dC dI h ad ca tc cl tr g x1 _ hw) (cwV 1 hts gX0_say_X0_isThing rfl rfl rfl (by decide +kernel) ⟨Nat.le_of_ble_eq_true rfl, Nat.le_of_ble_eq_true rfl⟩) ⟨fun a U g mk q => by obtain ⟨q0, qP, qK⟩ := q; exact ⟨q0, qP, va_K.moved (u := U) (U := U.calling g mk a) (Vm.Alike.refl U.vm) qK⟩, va_recv hK hP (ci := 0) (q0 := 0) rfl rfl, fun U hU hW => ⟨rfl, by rw [hU]; exact hP, va_K.moved hW.alike hK⟩⟩ rfl rfl hl.1 rfl (lv_room (Nat.le_of_ble_eq_true rfl)) dX0_say_2 ⟨Nat.zero_le _, Nat.zero_le _⟩) (fun r_1 hw => ?_)
    try dsimp only at hw
    refine lv_if_ne (tgt := 10) hx hb dX0_say_5 (by decide) (fun hc => ?_) (fun hc => ?_)
    · replace hw := hw.1 hc
      clear hc
      refine lv_aload_n hx hb dX0_say_10 rfl (lv_at hl 0 rfl) ?_
      refine va_get (D := (dC, dI)) (ci := 0) (C := RX0) (T := TX0) (N := 13) hx hb hts inw hown hK hP 0 rfl rfl 1 (by decide) f45 (fun _ h9 => h9) rfl dX0_say_11 ?_
      refine lv_bipush (v := (16 : Int32)) hx hb dX0_say_14 (by decide) ?_
      refine lv_icmp_lt (tgt := 22) hx hb dX0_say_16 (by decide) (fun hc => ?_) (fun hc => ?_)
      · replace hw := hw.1 hc
        clear hc
        refine lv_aload_n hx hb dX0_say_22 rfl (lv_at hl 0 rfl) ?_
        refine va_get (D := (dC, dI)) (ci := 0) (C := RX0) (T := TX0) (N := 13) hx hb hts inw hown hK hP 0 rfl rfl 6 (by decide) f23 (fun _ h9 => h9) rfl dX0_say_23 ?_
        refine lv_aload_n hx hb dX0_say_26 rfl (lv_at hl 0 rfl) ?_
        refine va_get (D := (dC, dI)) (ci := 0) (C := RX0) (T := TX0) (N := 13) hx hb hts inw hown hK hP 0 rfl rfl 1 (by decide) f45 (fun _ h9 => h9) rfl dX0_say_27 ?_
        refine lv_iload_n hx hb dX0_say_30 rfl (lv_at hl 1 rfl) ?_
        obtain ⟨hin, hw⟩ := hw
        refine va_iast hx hb hK hP hD hS 4 3 rfl rfl hin dX0_say_31 (fun H locs hP hD hS => ?_)
        obtain ⟨g_2, hg⟩ : ∃ z : Sg, z = up2 g 6 (cl).toNatClampNeg x1 := ⟨_, rfl⟩
        replace hw := hw g_2 hg
        have hP : va_P (dC, dI) vwCl (XL h ad ca tc cl tr g_2) H := by rw [hg]; exact hP
        have hD : va_D A (XL h ad ca tc cl tr g_2) := by rw [hg]; exact hD
        clear hg
        refine lv_aload_n hx hb dX0_say_32 rfl (lv_at hl 0 rfl) ?_
        refine lv_dup hx hb dX0_say_33 rfl ?_
        refine va_get (D := (dC, dI)) (ci := 0) (C := RX0) (T := TX0) (N := 13) hx hb hts inw hown hK hP 0 rfl rfl 1 (by decide) f45 (fun _ h9 => h9) rfl dX0_say_34 ?_
        refine lv_iconst (v := (1 : Int32)) hx hb dX0_say_37 (by decide) ?_
        refine lv_iadd hx hb dX0_say_38 ?_
        refine lv_topi (fun cl_3 hv => ?_)
        replace hw := hw cl_3 hv
        clear hv
        refine va_put (D := (dC, dI)) (ci := 0) (v := .int cl_3) (ty := .int) (C := RX0) (T := TX0) (N := 13) hx hb hts inw tyX0 tyX0_ok nmX0 hown hK hP hD hS 0 rfl rfl 1 (by decide) f45 (fun _ h9 => h9) rfl (by decide +kernel) rfl rfl (Nat.le_of_ble_eq_true rfl) dX0_say_39 (fun H locs hP hD hS => ?_)
        have hP : va_P (dC, dI) vwCl (XL h ad ca tc cl_3 tr g_2) H := hP
        have hD : va_D A (XL h ad ca tc cl_3 tr g_2) := hD
        refine lv_aload_n hx hb dX0_say_42 rfl (lv_at hl 0 rfl) ?_
        refine va_get (D := (dC, dI)) (ci := 0) (C := RX0) (T := TX0) (N := 13) hx hb hts inw hown hK hP 0 rfl rfl 1 (by decide) f45 (fun _ h9 => h9) rfl dX0_say_43 ?_
        exact W.iret (v := cl_3) hx hb hr (fun t ht hW => ⟨⟨cl_3, (tc, cl_3, tr, g_2), rfl, hw, by rw [ht]; exact hP, va_K.moved hW.alike hK, hD⟩, hS.F ht⟩) hS.2.2 dX0_say_46
      · replace hw := hw.2 hc
        clear hc
        refine lv_bipush (v := (-3 : Int32)) hx hb dX0_say_19 (by decide) ?_
        exact W.iret (v := (-3 : Int32)) hx hb hr (fun t ht hW => ⟨⟨(-3 : Int32), (tc, cl, tr, g), rfl, hw, by rw [ht]; exact hP, va_K.moved hW.alike hK, hD⟩, hS.F ht⟩) hS.2.2 dX0_say_21
    · replace hw := hw.2 hc
      clear hc
      refine lv_iconst (v := (-1 : Int32)) hx hb dX0_say_8 (by decide) ?_
      exact W.iret (v := (-1 : Int32)) hx hb hr (fun t ht hW => ⟨⟨(-1 : Int32), (tc, cl, tr, g), rfl, hw, by rw [ht]; exact hP, va_K.moved hW.alike hK, hD⟩, hS.F ht⟩) hS.2.2 dX0_say_9
  rw [hHe, hLe] at hgo
  exact hgo
end
