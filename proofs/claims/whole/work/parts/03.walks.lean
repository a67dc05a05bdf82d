-- X0_things (I)I, effect 2, room (0, 0)
def wX_things_b20 (P : Int32 → Int32 → Int32 → Int64 → Sg → Prop) (x1 : Int32) (x2 : Int32) (K53 : Int32 → Int32 → Int64 → Sg → Prop) (B : Int32 → Int32 → Int32 → Int64 → Sg → Prop) (x3 : Int32) (tc : Int32) (cl : Int32) (tr : Int64) (g : Sg) : Prop :=
  (((8 : Int32) ≤ x3 → (K53 tc cl tr g)) ∧ (¬ (8 : Int32) ≤ x3 → (vp_in x3 8 ∧ ∀ g_1 : Sg, g_1 = up2 g 3 (x3).toNatClampNeg (0 : Int32) → (vp_in x3 8 ∧ ∀ g_2 : Sg, g_2 = up2 g_1 4 (x3).toNatClampNeg (0 : Int32) → (vp_in x3 8 ∧ ∀ g_3 : Sg, g_3 = up2 g_2 5 (x3).toNatClampNeg (0 : Int32) → (B (x3 + 1) tc cl tr g_3))))))
def wX_things (P : Int32 → Int32 → Int32 → Int64 → Sg → Prop) (tc cl : Int32) (tr : Int64) (g : Sg) (x1 : Int32) : Prop :=
  ((x1 < (1 : Int32) → (P (-1 : Int32) tc cl tr g)) ∧ (¬ x1 < (1 : Int32) → ((x1 ≤ (8 : Int32) → (∃ n_8, Lp5 (wX_things_b20 P x1 tc (fun (tc_4 : Int32) (cl_5 : Int32) (tr_6 : Int64) (g_7 : Sg) => (P tc x1 (0 : Int32) tr_6 g_7))) n_8 (0 : Int32) tc cl tr g)) ∧ (¬ x1 ≤ (8 : Int32) → (P (-1 : Int32) tc cl tr g)))))
-- X0_isThing (I)Z, effect 0, room (0, 0)
def wX_isThing (P : Int32 → Prop) (tc cl : Int32) (tr : Int64) (g : Sg) (x1 : Int32) : Prop :=
  ((x1 < 0 → (P (0 : Int32))) ∧ (¬ x1 < 0 → ((tc ≤ x1 → (P (0 : Int32))) ∧ (¬ tc ≤ x1 → (P (1 : Int32))))))
-- X0_has (II)Z, effect 0, room (0, 0)
def wX_has (P : Int32 → Prop) (x0 : Int32) (x1 : Int32) : Prop :=
  ((((x0 >>> (x1 &&& 31)) &&& (1 : Int32)) = 0 → (P (0 : Int32))) ∧ (¬ ((x0 >>> (x1 &&& 31)) &&& (1 : Int32)) = 0 → (P (1 : Int32))))
-- X0_lay (II)I, effect 1, room (1, 21)
def wX_lay_j94 (P : Int32 → Sg → Prop) (tc cl : Int32) (tr : Int64) (B : Int32 → Sg → Prop) (x3 : Int32) (x4 : Int32) (x5 : Int32) (g : Sg) : Prop :=
  (wX_has (fun r_1 => ((r_1 = 0 → (B (x5 + 1) g)) ∧ (¬ r_1 = 0 → (vp_in x5 8 ∧ (vp_in x5 8 ∧ ∀ g_2 : Sg, g_2 = up2 g 3 (x5).toNatClampNeg ((g 3 (x5).toNatClampNeg) ||| x3) → (B (x5 + 1) g_2)))))) x4 x5)
def wX_lay_b64 (P : Int32 → Sg → Prop) (tc cl : Int32) (tr : Int64) (x3 : Int32) (x4 : Int32) (B : Int32 → Sg → Prop) (x5 : Int32) (g : Sg) : Prop :=
  ((tc ≤ x5 → (P (1 : Int32) g)) ∧ (¬ tc ≤ x5 → (wX_has (fun r_3 => ((r_3 = 0 → (wX_lay_j94 P tc cl tr B x3 x4 x5 g)) ∧ (¬ r_3 = 0 → (vp_in x5 8 ∧ (vp_in x5 8 ∧ ∀ g_4 : Sg, g_4 = up2 g 4 (x5).toNatClampNeg ((g 4 (x5).toNatClampNeg) ||| x4) → (wX_lay_j94 P tc cl tr B x3 x4 x5 g_4)))))) x3 x5)))
def wX_lay (P : Int32 → Sg → Prop) (tc cl : Int32) (tr : Int64) (g : Sg) (x1 : Int32) (x2 : Int32) : Prop :=
  (wX_isThing (fun r_5 => ((r_5 = 0 → (P (-1 : Int32) g)) ∧ (¬ r_5 = 0 → (wX_isThing (fun r_6 => ((r_6 = 0 → (P (-1 : Int32) g)) ∧ (¬ r_6 = 0 → ((x1 < x2 → (vp_in x2 8 ∧ (wX_has (fun r_7 => ((r_7 = 0 → (vp_in x1 8 ∧ (∀ x3_8 : Int32, x3_8 = ((g 3 (x1).toNatClampNeg) ||| ((1 : Int32) <<< (x1 &&& 31))) → (vp_in x2 8 ∧ (∀ x4_9 : Int32, x4_9 = ((g 4 (x2).toNatClampNeg) ||| ((1 : Int32) <<< (x2 &&& 31))) → (∃ n_10, Lp2 (wX_lay_b64 P tc cl tr x3_8 x4_9) n_10 (0 : Int32) g)))))) ∧ (¬ r_7 = 0 → (P (0 : Int32) g)))) (g 3 (x2).toNatClampNeg) x1))) ∧ (¬ x1 < x2 → (P (-1 : Int32) g)))))) tc cl tr g x2)))) tc cl tr g x1)
-- X0_below (II)I, effect 0, room (1, 21)
def wX_below (P : Int32 → Prop) (tc cl : Int32) (tr : Int64) (g : Sg) (x1 : Int32) (x2 : Int32) : Prop :=
  (wX_isThing (fun r_1 => ((r_1 = 0 → (P (-1 : Int32))) ∧ (¬ r_1 = 0 → (wX_isThing (fun r_2 => ((¬ r_2 = 0 → (vp_in x2 8 ∧ (wX_has (fun r_3 => ((r_3 = 0 → (P (0 : Int32))) ∧ (¬ r_3 = 0 → (P (1 : Int32))))) (g 3 (x2).toNatClampNeg) x1))) ∧ (r_2 = 0 → (P (-1 : Int32))))) tc cl tr g x2)))) tc cl tr g x1)
-- X0_weight (II)I, effect 1, room (1, 21)
def wX_weight (P : Int32 → Sg → Prop) (tc cl : Int32) (tr : Int64) (g : Sg) (x1 : Int32) (x2 : Int32) : Prop :=
  (wX_isThing (fun r_1 => ((r_1 = 0 → (P (-1000000 : Int32) g)) ∧ (¬ r_1 = 0 → ((x2 < (-9 : Int32) → (P (-1000000 : Int32) g)) ∧ (¬ x2 < (-9 : Int32) → ((x2 ≤ (9 : Int32) → (vp_in x1 8 ∧ (∀ x3_2 : Int32, x3_2 = (g 5 (x1).toNatClampNeg) → (vp_in x1 8 ∧ ∀ g_3 : Sg, g_3 = up2 g 5 (x1).toNatClampNeg x2 → (P x3_2 g_3))))) ∧ (¬ x2 ≤ (9 : Int32) → (P (-1000000 : Int32) g)))))))) tc cl tr g x1)
-- X0_say (I)I, effect 2, room (1, 21)
def wX_say (P : Int32 → Int32 → Int32 → Int64 → Sg → Prop) (tc cl : Int32) (tr : Int64) (g : Sg) (x1 : Int32) : Prop :=
  (wX_isThing (fun r_1 => ((¬ r_1 = 0 → ((cl < (16 : Int32) → (vp_in cl 16 ∧ ∀ g_2 : Sg, g_2 = up2 g 6 (cl).toNatClampNeg x1 → (∀ cl_3 : Int32, cl_3 = (cl + (1 : Int32)) → (P cl_3 tc cl_3 tr g_2)))) ∧ (¬ cl < (16 : Int32) → (P (-3 : Int32) tc cl tr g)))) ∧ (r_1 = 0 → (P (-1 : Int32) tc cl tr g)))) tc cl tr g x1)
-- X0_hush ()I, effect 2, room (0, 0)
def wX_hush (P : Int32 → Int32 → Int32 → Int64 → Sg → Prop) (tc cl : Int32) (tr : Int64) (g : Sg) : Prop :=
  (P cl tc (0 : Int32) tr g)
-- X0_setCount ()I, effect 0, room (0, 0)
def wX_setCount (P : Int32 → Prop) (tc cl : Int32) (tr : Int64) (g : Sg) : Prop :=
  (P ((1 : Int32) <<< (tc &&& 31)))
-- X0_isSet (I)Z, effect 0, room (1, 20)
def wX_isSet (P : Int32 → Prop) (tc cl : Int32) (tr : Int64) (g : Sg) (x1 : Int32) : Prop :=
  ((x1 < 0 → (P (0 : Int32))) ∧ (¬ x1 < 0 → (wX_setCount (fun r_1 => ((r_1 ≤ x1 → (P (0 : Int32))) ∧ (¬ r_1 ≤ x1 → (P (1 : Int32))))) tc cl tr g)))
-- X0_isHeap (I)Z, effect 0, room (2, 41)
def wX_isHeap_b12 (P : Int32 → Prop) (tc cl : Int32) (tr : Int64) (g : Sg) (x1 : Int32) (B : Int32 → Prop) (x2 : Int32) : Prop :=
  ((tc ≤ x2 → (P (1 : Int32))) ∧ (¬ tc ≤ x2 → (wX_has (fun r_1 => ((r_1 = 0 → (B (x2 + 1))) ∧ (¬ r_1 = 0 → (vp_in x2 8 ∧ ((((g 3 (x2).toNatClampNeg) &&& (x1 ^^^ (-1 : Int32))) = 0 → (B (x2 + 1))) ∧ (¬ ((g 3 (x2).toNatClampNeg) &&& (x1 ^^^ (-1 : Int32))) = 0 → (P (0 : Int32)))))))) x1 x2)))
def wX_isHeap (P : Int32 → Prop) (tc cl : Int32) (tr : Int64) (g : Sg) (x1 : Int32) : Prop :=
  (wX_isSet (fun r_2 => ((¬ r_2 = 0 → (∃ n_3, Lp1 (wX_isHeap_b12 P tc cl tr g x1) n_3 (0 : Int32))) ∧ (r_2 = 0 → (P (0 : Int32))))) tc cl tr g x1)
-- X0_heap (I)I, effect 0, room (3, 63)
def wX_heap (P : Int32 → Prop) (tc cl : Int32) (tr : Int64) (g : Sg) (x1 : Int32) : Prop :=
  (wX_isSet (fun r_1 => ((¬ r_1 = 0 → (wX_isHeap (fun r_2 => ((r_2 = 0 → (P (0 : Int32))) ∧ (¬ r_2 = 0 → (P (1 : Int32))))) tc cl tr g x1)) ∧ (r_1 = 0 → (P (-1 : Int32))))) tc cl tr g x1)
-- X0_many ()I, effect 0, room (3, 63)
def wX_many_b4 (P : Int32 → Prop) (tc cl : Int32) (tr : Int64) (g : Sg) (B : Int32 → Int32 → Prop) (x1 : Int32) (x2 : Int32) : Prop :=
  (wX_setCount (fun r_1 => ((r_1 ≤ x2 → (P x1)) ∧ (¬ r_1 ≤ x2 → (wX_isHeap (fun r_2 => ((r_2 = 0 → (B x1 (x2 + 1))) ∧ (¬ r_2 = 0 → (B (x1 + 1) (x2 + 1))))) tc cl tr g x2)))) tc cl tr g)
def wX_many (P : Int32 → Prop) (tc cl : Int32) (tr : Int64) (g : Sg) : Prop :=
  (∃ n_3, Lp2 (wX_many_b4 P tc cl tr g) n_3 (0 : Int32) (0 : Int32))
-- X0_flipped (II)I, effect 0, room (1, 21)
def wX_flipped_j29 (P : Int32 → Prop) (tc cl : Int32) (tr : Int64) (g : Sg) (x1 : Int32) (x2 : Int32) (y0 : Int32) : Prop :=
  ((¬ y0 = 0 → (P x1)) ∧ (y0 = 0 → (P (x1 ^^^ ((1 : Int32) <<< (x2 &&& 31))))))
def wX_flipped (P : Int32 → Prop) (tc cl : Int32) (tr : Int64) (g : Sg) (x1 : Int32) (x2 : Int32) : Prop :=
  (wX_has (fun r_1 => ((r_1 = 0 → (vp_in x2 8 ∧ (wX_flipped_j29 P tc cl tr g x1 x2 ((g 3 (x2).toNatClampNeg) &&& (x1 ^^^ (-1 : Int32)))))) ∧ (¬ r_1 = 0 → (vp_in x2 8 ∧ (wX_flipped_j29 P tc cl tr g x1 x2 ((g 4 (x2).toNatClampNeg) &&& x1)))))) x1 x2)
-- X0_flip (II)I, effect 0, room (3, 63)
def wX_flip (P : Int32 → Prop) (tc cl : Int32) (tr : Int64) (g : Sg) (x1 : Int32) (x2 : Int32) : Prop :=
  (wX_isHeap (fun r_1 => ((r_1 = 0 → (P (-1 : Int32))) ∧ (¬ r_1 = 0 → (wX_isThing (fun r_2 => ((¬ r_2 = 0 → (wX_flipped (fun r_3 => (P r_3)) tc cl tr g x1 x2)) ∧ (r_2 = 0 → (P (-1 : Int32))))) tc cl tr g x2)))) tc cl tr g x1)
-- X0_isTurnKind (I)Z, effect 0, room (0, 0)
def wX_isTurnKind_j9 (P : Int32 → Prop) : Prop :=
  (P (1 : Int32))
def wX_isTurnKind (P : Int32 → Prop) (x0 : Int32) : Prop :=
  ((x0 = 0 → (wX_isTurnKind_j9 P)) ∧ (¬ x0 = 0 → ((¬ x0 = (1 : Int32) → (P (0 : Int32))) ∧ (x0 = (1 : Int32) → (wX_isTurnKind_j9 P)))))
-- X0_isTurnNumber (I)Z, effect 0, room (0, 0)
def wX_isTurnNumber (P : Int32 → Prop) (x0 : Int32) : Prop :=
  ((x0 < 0 → (P (0 : Int32))) ∧ (¬ x0 < 0 → (((1000 : Int32) < x0 → (P (0 : Int32))) ∧ (¬ (1000 : Int32) < x0 → (P (1 : Int32))))))
-- X0_turnedRound (I)I, effect 0, room (1, 21)
def wX_turnedRound_b4 (P : Int32 → Prop) (tc cl : Int32) (tr : Int64) (g : Sg) (x1 : Int32) (B : Int32 → Int32 → Prop) (x2 : Int32) (x3 : Int32) : Prop :=
  ((tc ≤ x3 → (P x2)) ∧ (¬ tc ≤ x3 → (wX_has (fun r_1 => ((¬ r_1 = 0 → (B x2 (x3 + 1))) ∧ (r_1 = 0 → (vp_in x3 8 ∧ ((¬ ((g 3 (x3).toNatClampNeg) &&& (x1 ^^^ (-1 : Int32))) = 0 → (B x2 (x3 + 1))) ∧ (((g 3 (x3).toNatClampNeg) &&& (x1 ^^^ (-1 : Int32))) = 0 → (vp_in x3 8 ∧ (∀ x2_2 : Int32, x2_2 = (x2 ||| ((g 3 (x3).toNatClampNeg) ||| ((1 : Int32) <<< (x3 &&& 31)))) → (B x2_2 (x3 + 1)))))))))) x1 x3)))
def wX_turnedRound (P : Int32 → Prop) (tc cl : Int32) (tr : Int64) (g : Sg) (x1 : Int32) : Prop :=
  (∃ n_3, Lp2 (wX_turnedRound_b4 P tc cl tr g x1) n_3 (0 : Int32) (0 : Int32))
-- X0_turnedByChain (I)I, effect 0, room (2, 44)
def wX_turnedByChain_b4 (P : Int32 → Prop) (tc cl : Int32) (tr : Int64) (g : Sg) (B : Int32 → Int32 → Prop) (x2 : Int32) (x3 : Int32) : Prop :=
  ((cl ≤ x3 → (P x2)) ∧ (¬ cl ≤ x3 → (vp_in x3 16 ∧ (wX_flipped (fun r_1 => (B r_1 (x3 + 1))) tc cl tr g x2 (g 6 (x3).toNatClampNeg)))))
def wX_turnedByChain (P : Int32 → Prop) (tc cl : Int32) (tr : Int64) (g : Sg) (x1 : Int32) : Prop :=
  (∃ n_2, Lp2 (wX_turnedByChain_b4 P tc cl tr g) n_2 x1 (0 : Int32))
-- X0_turned (II)I, effect 0, room (3, 67)
def wX_turned (P : Int32 → Prop) (tc cl : Int32) (tr : Int64) (g : Sg) (x1 : Int32) (x2 : Int32) : Prop :=
  ((¬ x2 = 0 → (wX_turnedByChain (fun r_1 => (P r_1)) tc cl tr g x1)) ∧ (x2 = 0 → (wX_turnedRound (fun r_2 => (P r_2)) tc cl tr g x1)))
-- X0_turn (III)I, effect 0, room (4, 89)
def wX_turn_b30 (P : Int32 → Prop) (tc cl : Int32) (tr : Int64) (g : Sg) (x2 : Int32) (x3 : Int32) (B : Int32 → Int32 → Prop) (x4 : Int32) (x5 : Int32) : Prop :=
  ((x3 ≤ x5 → (P x4)) ∧ (¬ x3 ≤ x5 → (wX_turned (fun r_1 => (B r_1 (x5 + 1))) tc cl tr g x4 x2)))
def wX_turn (P : Int32 → Prop) (tc cl : Int32) (tr : Int64) (g : Sg) (x1 : Int32) (x2 : Int32) (x3 : Int32) : Prop :=
  (wX_isHeap (fun r_2 => ((r_2 = 0 → (P (-1 : Int32))) ∧ (¬ r_2 = 0 → (wX_isTurnKind (fun r_3 => ((r_3 = 0 → (P (-1 : Int32))) ∧ (¬ r_3 = 0 → (wX_isTurnNumber (fun r_4 => ((¬ r_4 = 0 → (∃ n_5, Lp2 (wX_turn_b30 P tc cl tr g x2 x3) n_5 x1 (0 : Int32))) ∧ (r_4 = 0 → (P (-1 : Int32))))) x3)))) x2)))) tc cl tr g x1)
-- X0_walkOrbit (II)I, effect 1, room (4, 89)
def wX_walkOrbit_b5 (P : Int32 → Sg → Prop) (tc cl : Int32) (tr : Int64) (x1 : Int32) (x2 : Int32) (B : Int32 → Int32 → Sg → Prop) (x3 : Int32) (x4 : Int32) (g : Sg) : Prop :=
  (vp_in x3 256 ∧ ∀ g_1 : Sg, g_1 = up2 g 12 (x3).toNatClampNeg (vp_nar .boolean (1 : Int32)) → (wX_turned (fun r_2 => ((r_2 = x1 → (P (x4 + 1) g_1)) ∧ (¬ r_2 = x1 → (((x4 + 1) < (256 : Int32) → (B r_2 (x4 + 1) g_1)) ∧ (¬ (x4 + 1) < (256 : Int32) → (P (x4 + 1) g_1)))))) tc cl tr g_1 x3 x2))
def wX_walkOrbit (P : Int32 → Sg → Prop) (tc cl : Int32) (tr : Int64) (g : Sg) (x1 : Int32) (x2 : Int32) : Prop :=
  (∃ n_3, Lp3 (wX_walkOrbit_b5 P tc cl tr x1 x2) n_3 x1 (0 : Int32) g)
-- X0_orbit (II)I, effect 1, room (5, 113)
def wX_orbit (P : Int32 → Sg → Prop) (tc cl : Int32) (tr : Int64) (g : Sg) (x1 : Int32) (x2 : Int32) : Prop :=
  (wX_isHeap (fun r_1 => ((r_1 = 0 → (P (-1 : Int32) g)) ∧ (¬ r_1 = 0 → (wX_isTurnKind (fun r_2 => ((¬ r_2 = 0 → (wX_walkOrbit (fun r_3 g_4 => (P r_3 g_4)) tc cl tr g x1 x2)) ∧ (r_2 = 0 → (P (-1 : Int32) g)))) x2)))) tc cl tr g x1)
-- X0_findOrbits (I)I, effect 1, room (5, 113)
def wX_findOrbits_j28 (P : Int32 → Sg → Prop) (tc cl : Int32) (tr : Int64) (B : Int32 → Sg → Prop) (K35 : Sg → Prop) (x1 : Int32) (x2 : Int32) (y1 : Int32) (y2 : Int32) (g : Sg) : Prop :=
  (vp_in y1 256 ∧ ∀ g_1 : Sg, g_1 = up2 g 12 (y1).toNatClampNeg (vp_nar .boolean y2) → (B (x2 + 1) g_1))
def wX_findOrbits_b2 (P : Int32 → Sg → Prop) (tc cl : Int32) (tr : Int64) (x1 : Int32) (K35 : Sg → Prop) (B : Int32 → Sg → Prop) (x2 : Int32) (g : Sg) : Prop :=
  (wX_setCount (fun r_2 => ((r_2 ≤ x2 → (K35 g)) ∧ (¬ r_2 ≤ x2 → (wX_isHeap (fun r_3 => ((¬ r_3 = 0 → (wX_findOrbits_j28 P tc cl tr B K35 x1 x2 x2 (0 : Int32) g)) ∧ (r_3 = 0 → (wX_findOrbits_j28 P tc cl tr B K35 x1 x2 x2 (1 : Int32) g)))) tc cl tr g x2)))) tc cl tr g)
def wX_findOrbits_b39 (P : Int32 → Sg → Prop) (tc cl : Int32) (tr : Int64) (x1 : Int32) (B : Int32 → Int32 → Sg → Prop) (x2 : Int32) (x3 : Int32) (g : Sg) : Prop :=
  (wX_setCount (fun r_4 => ((r_4 ≤ x3 → (P x2 g)) ∧ (¬ r_4 ≤ x3 → (vp_in x3 256 ∧ ((¬ (g 12 (x3).toNatClampNeg) = 0 → (B x2 (x3 + 1) g)) ∧ ((g 12 (x3).toNatClampNeg) = 0 → (vp_in x2 256 ∧ ∀ g_5 : Sg, g_5 = up2 g 10 (x2).toNatClampNeg x3 → (wX_walkOrbit (fun r_6 g_7 => (vp_in x2 256 ∧ ∀ g_8 : Sg, g_8 = up2 g_7 11 (x2).toNatClampNeg r_6 → (B (x2 + 1) (x3 + 1) g_8))) tc cl tr g_5 x3 x1)))))))) tc cl tr g)
def wX_findOrbits (P : Int32 → Sg → Prop) (tc cl : Int32) (tr : Int64) (g : Sg) (x1 : Int32) : Prop :=
  (∃ n_11, Lp2 (wX_findOrbits_b2 P tc cl tr x1 (fun (g_9 : Sg) => (∃ n_10, Lp3 (wX_findOrbits_b39 P tc cl tr x1) n_10 (0 : Int32) (0 : Int32) g_9))) n_11 (0 : Int32) g)
-- X0_commonDivisor (II)I, effect 0, room (1, 21)
def wX_commonDivisor_b7 (P : Int32 → Prop) (K34 : Int32 → Prop) (B : Int32 → Int32 → Int32 → Prop) (x2 : Int32) (x3 : Int32) (x4 : Int32) : Prop :=
  (((100 : Int32) ≤ x4 → (K34 x2)) ∧ (¬ (100 : Int32) ≤ x4 → ((x3 = 0 → (K34 x2)) ∧ (¬ x3 = 0 → (¬ x3 = 0 ∧ (∀ x5_1 : Int32, x5_1 = (x2 - x2 / x3 * x3) → (B x3 x5_1 (x4 + 1))))))))
def wX_commonDivisor (P : Int32 → Prop) (x0 : Int32) (x1 : Int32) : Prop :=
  (∃ n_3, Lp3 (wX_commonDivisor_b7 P (fun (x2_2 : Int32) => (P (if (1 : Int32) < x2_2 then x2_2 else (1 : Int32))))) n_3 x0 x1 (0 : Int32))
-- X0_orderOf (I)I, effect 0, room (2, 46)
def wX_orderOf_b4 (P : Int32 → Prop) (tc cl : Int32) (tr : Int64) (g : Sg) (x1 : Int32) (B : Int32 → Int32 → Prop) (x2 : Int32) (x3 : Int32) : Prop :=
  ((x1 ≤ x3 → (P x2)) ∧ (¬ x1 ≤ x3 → (vp_in x3 256 ∧ (vp_in x3 256 ∧ (wX_commonDivisor (fun r_1 => (¬ r_1 = 0 ∧ (∀ x4_2 : Int32, x4_2 = ((g 11 (x3).toNatClampNeg) / r_1) → (∀ x5_3 : Int64, x5_3 = ((Int32.toInt64 x2) * (Int32.toInt64 x4_2)) → (((lg_cmp x5_3 (1000000000 : Int64)) ≤ 0 → (∀ x2_4 : Int32, x2_4 = (Int64.toInt32 x5_3) → (B x2_4 (x3 + 1)))) ∧ (¬ (lg_cmp x5_3 (1000000000 : Int64)) ≤ 0 → (P (-9 : Int32)))))))) x2 (g 11 (x3).toNatClampNeg))))))
def wX_orderOf (P : Int32 → Prop) (tc cl : Int32) (tr : Int64) (g : Sg) (x1 : Int32) : Prop :=
  (∃ n_5, Lp2 (wX_orderOf_b4 P tc cl tr g x1) n_5 (1 : Int32) (0 : Int32))
-- X0_longestOf (I)I, effect 0, room (1, 21)
def wX_longestOf_b4 (P : Int32 → Prop) (tc cl : Int32) (tr : Int64) (g : Sg) (x1 : Int32) (B : Int32 → Int32 → Prop) (x2 : Int32) (x3 : Int32) : Prop :=
  ((x1 ≤ x3 → (P x2)) ∧ (¬ x1 ≤ x3 → (vp_in x3 256 ∧ (∀ x2_1 : Int32, x2_1 = (if x2 < (g 11 (x3).toNatClampNeg) then (g 11 (x3).toNatClampNeg) else x2) → (B x2_1 (x3 + 1))))))
def wX_longestOf (P : Int32 → Prop) (tc cl : Int32) (tr : Int64) (g : Sg) (x1 : Int32) : Prop :=
  (∃ n_2, Lp2 (wX_longestOf_b4 P tc cl tr g x1) n_2 (0 : Int32) (0 : Int32))
-- X0_orbits (II)I, effect 1, room (6, 136)
def wX_orbits (P : Int32 → Sg → Prop) (tc cl : Int32) (tr : Int64) (g : Sg) (x1 : Int32) (x2 : Int32) : Prop :=
  (wX_isTurnKind (fun r_1 => ((r_1 = 0 → (P (-1 : Int32) g)) ∧ (¬ r_1 = 0 → ((x2 < 0 → (P (-1 : Int32) g)) ∧ (¬ x2 < 0 → ((x2 ≤ (2 : Int32) → (wX_findOrbits (fun r_2 g_3 => ((¬ x2 = 0 → ((¬ x2 = (1 : Int32) → (wX_longestOf (fun r_4 => (P r_4 g_3)) tc cl tr g_3 r_2)) ∧ (x2 = (1 : Int32) → (wX_orderOf (fun r_5 => (P r_5 g_3)) tc cl tr g_3 r_2)))) ∧ (x2 = 0 → (P r_2 g_3)))) tc cl tr g x1)) ∧ (¬ x2 ≤ (2 : Int32) → (P (-1 : Int32) g)))))))) x1)
-- X0_isMeasureKind (I)Z, effect 0, room (0, 0)
def wX_isMeasureKind (P : Int32 → Prop) (x0 : Int32) : Prop :=
  ((x0 < 0 → (P (0 : Int32))) ∧ (¬ x0 < 0 → (((2 : Int32) < x0 → (P (0 : Int32))) ∧ (¬ (2 : Int32) < x0 → (P (1 : Int32))))))
-- X0_traceOf (I)I, effect 0, room (0, 0)
def wX_traceOf_j10 (P : Int32 → Prop) (x0 : Int32) (x1 : Int32) : Prop :=
  ((x0 < (2 : Int32) → (P x1)) ∧ (¬ x0 < (2 : Int32) → (P (x1 + 100))))
def wX_traceOf (P : Int32 → Prop) (x0 : Int32) : Prop :=
  ((x0 < (1 : Int32) → (wX_traceOf_j10 P x0 (1 : Int32))) ∧ (¬ x0 < (1 : Int32) → (wX_traceOf_j10 P x0 ((1 : Int32) + 10))))
-- J6_bitCount_0f7a4 (I)I, effect 0, room (0, 0)
def wJ_bitCount (P : Int32 → Prop) (x0 : Int32) : Prop :=
  (∀ x0_1 : Int32, x0_1 = (x0 - ((ush x0 (1 : Int32)) &&& (1431655765 : Int32))) → (∀ x0_2 : Int32, x0_2 = ((x0_1 &&& (858993459 : Int32)) + ((ush x0_1 (2 : Int32)) &&& (858993459 : Int32))) → (∀ x0_3 : Int32, x0_3 = ((x0_2 + (ush x0_2 (4 : Int32))) &&& (252645135 : Int32)) → (∀ x0_4 : Int32, x0_4 = (x0_3 + (ush x0_3 (8 : Int32))) → (∀ x0_5 : Int32, x0_5 = (x0_4 + (ush x0_4 (16 : Int32))) → (P (x0_5 &&& (63 : Int32))))))))
-- X0_weighed (I)I, effect 0, room (1, 21)
def wX_weighed_b7 (P : Int32 → Prop) (tc cl : Int32) (tr : Int64) (g : Sg) (x1 : Int32) (B : Int32 → Int32 → Prop) (x2 : Int32) (x3 : Int32) : Prop :=
  ((tc ≤ x3 → (P x2)) ∧ (¬ tc ≤ x3 → (wX_has (fun r_1 => ((r_1 = 0 → (B x2 (x3 + 1))) ∧ (¬ r_1 = 0 → (vp_in x3 8 ∧ (∀ x2_2 : Int32, x2_2 = (x2 + (g 5 (x3).toNatClampNeg)) → (B x2_2 (x3 + 1))))))) x1 x3)))
def wX_weighed (P : Int32 → Prop) (tc cl : Int32) (tr : Int64) (g : Sg) (x1 : Int32) : Prop :=
  (wJ_bitCount (fun r_3 => (∃ n_4, Lp2 (wX_weighed_b7 P tc cl tr g x1) n_4 r_3 (0 : Int32))) x1)
-- X0_edged (I)I, effect 0, room (2, 44)
def wX_edged_b8 (P : Int32 → Prop) (tc cl : Int32) (tr : Int64) (g : Sg) (x1 : Int32) (B : Int32 → Int32 → Prop) (x2 : Int32) (x3 : Int32) : Prop :=
  ((tc ≤ x3 → (P x2)) ∧ (¬ tc ≤ x3 → (wX_has (fun r_1 => ((r_1 = 0 → (B x2 (x3 + 1))) ∧ (¬ r_1 = 0 → (vp_in x3 8 ∧ ((¬ ((g 4 (x3).toNatClampNeg) &&& x1) = 0 → (B x2 (x3 + 1))) ∧ (((g 4 (x3).toNatClampNeg) &&& x1) = 0 → (B (x2 + 1) (x3 + 1)))))))) x1 x3)))
def wX_edged (P : Int32 → Prop) (tc cl : Int32) (tr : Int64) (g : Sg) (x1 : Int32) : Prop :=
  (wX_weighed (fun r_2 => (∃ n_3, Lp2 (wX_edged_b8 P tc cl tr g x1) n_3 r_2 (0 : Int32))) tc cl tr g x1)
-- X0_measured (II)I, effect 0, room (3, 67)
def wX_measured (P : Int32 → Prop) (tc cl : Int32) (tr : Int64) (g : Sg) (x1 : Int32) (x2 : Int32) : Prop :=
  ((¬ x1 = (2 : Int32) → ((¬ x1 = (1 : Int32) → (wJ_bitCount (fun r_1 => (P r_1)) x2)) ∧ (x1 = (1 : Int32) → (wX_weighed (fun r_2 => (P r_2)) tc cl tr g x2)))) ∧ (x1 = (2 : Int32) → (wX_edged (fun r_3 => (P r_3)) tc cl tr g x2)))
-- X0_measure (II)I, effect 2, room (4, 89)
def wX_measure (P : Int32 → Int32 → Int32 → Int64 → Sg → Prop) (tc cl : Int32) (tr : Int64) (g : Sg) (x1 : Int32) (x2 : Int32) : Prop :=
  (wX_isMeasureKind (fun r_1 => ((r_1 = 0 → (P (-1000000 : Int32) tc cl tr g)) ∧ (¬ r_1 = 0 → (wX_isHeap (fun r_2 => ((¬ r_2 = 0 → (wX_traceOf (fun r_3 => (∀ tr_4 : Int64, tr_4 = (tr + (Int32.toInt64 r_3)) → (wX_measured (fun r_5 => (P r_5 tc cl tr_4 g)) tc cl tr_4 g x1 x2))) x1)) ∧ (r_2 = 0 → (P (-1000000 : Int32) tc cl tr g)))) tc cl tr g x2)))) x1)
-- X0_sumOfOrbit (IIII)I, effect 0, room (4, 89)
def wX_sumOfOrbit_b9 (P : Int32 → Prop) (tc cl : Int32) (tr : Int64) (g : Sg) (x2 : Int32) (x3 : Int32) (x4 : Int32) (B : Int32 → Int32 → Int32 → Prop) (x5 : Int32) (x6 : Int32) (x7 : Int32) : Prop :=
  ((x2 ≤ x7 → (P x5)) ∧ (¬ x2 ≤ x7 → (wX_measured (fun r_1 => (∀ x5_2 : Int32, x5_2 = (x5 + r_1) → (wX_turned (fun r_3 => (B x5_2 r_3 (x7 + 1))) tc cl tr g x6 x3))) tc cl tr g x4 x6)))
def wX_sumOfOrbit (P : Int32 → Prop) (tc cl : Int32) (tr : Int64) (g : Sg) (x1 : Int32) (x2 : Int32) (x3 : Int32) (x4 : Int32) : Prop :=
  (∃ n_4, Lp3 (wX_sumOfOrbit_b9 P tc cl tr g x2 x3 x4) n_4 (0 : Int32) x1 (0 : Int32))
-- X0_mean (IIII)I, effect 1, room (5, 116)
def wX_mean (P : Int32 → Sg → Prop) (tc cl : Int32) (tr : Int64) (g : Sg) (x1 : Int32) (x2 : Int32) (x3 : Int32) (x4 : Int32) : Prop :=
  (wX_isHeap (fun r_1 => ((r_1 = 0 → (P (-1000000 : Int32) g)) ∧ (¬ r_1 = 0 → (wX_isTurnKind (fun r_2 => ((r_2 = 0 → (P (-1000000 : Int32) g)) ∧ (¬ r_2 = 0 → (wX_isMeasureKind (fun r_3 => ((r_3 = 0 → (P (-1000000 : Int32) g)) ∧ (¬ r_3 = 0 → ((x4 < 0 → (P (-1000000 : Int32) g)) ∧ (¬ x4 < 0 → ((x4 ≤ (1 : Int32) → (wX_walkOrbit (fun r_4 g_5 => (wX_sumOfOrbit (fun r_6 => (wX_commonDivisor (fun r_7 => ((¬ x4 = 0 → (¬ r_7 = 0 ∧ (P (r_4 / r_7) g_5))) ∧ (x4 = 0 → (¬ r_7 = 0 ∧ (P (r_6 / r_7) g_5))))) (if 0 ≤ r_6 then r_6 else 0 - r_6) r_4)) tc cl tr g_5 x1 r_4 x2 x3)) tc cl tr g x1 x2)) ∧ (¬ x4 ≤ (1 : Int32) → (P (-1000000 : Int32) g)))))))) x3)))) x2)))) tc cl tr g x1)
-- X0_even (II)I, effect 1, room (6, 136)
def wX_even_b49 (P : Int32 → Sg → Prop) (tc cl : Int32) (tr : Int64) (x1 : Int32) (x2 : Int32) (x3 : Int32) (x4 : Int32) (x5 : Int32) (B : Int32 → Sg → Prop) (x6 : Int32) (g : Sg) : Prop :=
  ((x3 ≤ x6 → (P (1 : Int32) g)) ∧ (¬ x3 ≤ x6 → (vp_in x6 256 ∧ (vp_in x6 256 ∧ (wX_sumOfOrbit (fun r_1 => (vp_in x6 256 ∧ (((r_1 * x4) = (x5 * (g 11 (x6).toNatClampNeg)) → (B (x6 + 1) g)) ∧ (¬ (r_1 * x4) = (x5 * (g 11 (x6).toNatClampNeg)) → (P (0 : Int32) g))))) tc cl tr g (g 10 (x6).toNatClampNeg) (g 11 (x6).toNatClampNeg) x1 x2)))))
def wX_even (P : Int32 → Sg → Prop) (tc cl : Int32) (tr : Int64) (g : Sg) (x1 : Int32) (x2 : Int32) : Prop :=
  (wX_isTurnKind (fun r_2 => ((r_2 = 0 → (P (-1 : Int32) g)) ∧ (¬ r_2 = 0 → (wX_isMeasureKind (fun r_3 => ((¬ r_3 = 0 → (wX_findOrbits (fun r_4 g_5 => (vp_in (0 : Int32) 256 ∧ (∀ x4_6 : Int32, x4_6 = (g_5 11 ((0 : Int32)).toNatClampNeg) → (vp_in (0 : Int32) 256 ∧ (wX_sumOfOrbit (fun r_7 => (∃ n_8, Lp2 (wX_even_b49 P tc cl tr x1 x2 r_4 x4_6 r_7) n_8 (1 : Int32) g_5)) tc cl tr g_5 (g_5 10 ((0 : Int32)).toNatClampNeg) x4_6 x1 x2))))) tc cl tr g x1)) ∧ (r_3 = 0 → (P (-1 : Int32) g)))) x2)))) x1)
-- X0_isHeight (I)Z, effect 0, room (0, 0)
def wX_isHeight (P : Int32 → Prop) (x0 : Int32) : Prop :=
  ((x0 < (1 : Int32) → (P (0 : Int32))) ∧ (¬ x0 < (1 : Int32) → (((3 : Int32) < x0 → (P (0 : Int32))) ∧ (¬ (3 : Int32) < x0 → (P (1 : Int32))))))
-- X0_extendRows ()V, effect 1, room (3, 63)
def wX_extendRows_b61 (P : Sg → Prop) (tc cl : Int32) (tr : Int64) (B : Int32 → Sg → Prop) (x1 : Int32) (g : Sg) : Prop :=
  (wX_setCount (fun r_1 => ((r_1 ≤ x1 → (P g)) ∧ (¬ r_1 ≤ x1 → (wX_isHeap (fun r_2 => ((¬ r_2 = 0 → (B (x1 + 1) g)) ∧ (r_2 = 0 → (vp_in x1 256 ∧ ∀ g_3 : Sg, g_3 = up2 g 9 (x1).toNatClampNeg (0 : Int32) → (B (x1 + 1) g_3))))) tc cl tr g x1)))) tc cl tr g)
def wX_extendRows_b12 (P : Sg → Prop) (tc cl : Int32) (tr : Int64) (x1 : Int32) (K53 : Sg → Prop) (B : Int32 → Sg → Prop) (x2 : Int32) (g : Sg) : Prop :=
  (wX_setCount (fun r_4 => ((r_4 ≤ x2 → (K53 g)) ∧ (¬ r_4 ≤ x2 → (wX_has (fun r_5 => ((r_5 = 0 → (B (x2 + 1) g)) ∧ (¬ r_5 = 0 → (vp_in x2 256 ∧ (vp_in (x2 ^^^ ((1 : Int32) <<< (x1 &&& 31))) 256 ∧ (vp_in x2 256 ∧ ∀ g_6 : Sg, g_6 = up2 g 9 (x2).toNatClampNeg ((g 9 (x2).toNatClampNeg) + (g 9 ((x2 ^^^ ((1 : Int32) <<< (x1 &&& 31)))).toNatClampNeg)) → (B (x2 + 1) g_6))))))) x2 x1)))) tc cl tr g)
def wX_extendRows_b2 (P : Sg → Prop) (tc cl : Int32) (tr : Int64) (K59 : Sg → Prop) (B : Int32 → Sg → Prop) (x1 : Int32) (g : Sg) : Prop :=
  ((tc ≤ x1 → (K59 g)) ∧ (¬ tc ≤ x1 → (∃ n_8, Lp2 (wX_extendRows_b12 P tc cl tr x1 (fun (g_7 : Sg) => (B (x1 + 1) g_7))) n_8 (0 : Int32) g)))
def wX_extendRows (P : Sg → Prop) (tc cl : Int32) (tr : Int64) (g : Sg) : Prop :=
  (∃ n_11, Lp2 (wX_extendRows_b2 P tc cl tr (fun (g_9 : Sg) => (∃ n_10, Lp2 (wX_extendRows_b61 P tc cl tr) n_10 (0 : Int32) g_9))) n_11 (0 : Int32) g)
-- X0_fillings (I)I, effect 1, room (4, 85)
def wX_fillings_b46 (P : Int32 → Sg → Prop) (tc cl : Int32) (tr : Int64) (x1 : Int32) (K61 : Sg → Prop) (B : Int32 → Sg → Prop) (x2 : Int32) (g : Sg) : Prop :=
  ((x1 < x2 → (K61 g)) ∧ (¬ x1 < x2 → (wX_extendRows (fun g_1 => (B (x2 + 1) g_1)) tc cl tr g)))
def wX_fillings_b65 (P : Int32 → Sg → Prop) (tc cl : Int32) (tr : Int64) (B : Int32 → Int32 → Sg → Prop) (x2 : Int32) (x3 : Int32) (g : Sg) : Prop :=
  (wX_setCount (fun r_2 => ((r_2 ≤ x3 → (P x2 g)) ∧ (¬ r_2 ≤ x3 → (vp_in x3 256 ∧ (∀ x2_3 : Int32, x2_3 = (x2 + (g 9 (x3).toNatClampNeg)) → (B x2_3 (x3 + 1) g)))))) tc cl tr g)
def wX_fillings_j37 (P : Int32 → Sg → Prop) (tc cl : Int32) (tr : Int64) (B : Int32 → Sg → Prop) (K44 : Sg → Prop) (x1 : Int32) (x2 : Int32) (y1 : Int32) (y2 : Int32) (g : Sg) : Prop :=
  (vp_in y1 256 ∧ ∀ g_4 : Sg, g_4 = up2 g 9 (y1).toNatClampNeg y2 → (B (x2 + 1) g_4))
def wX_fillings_b11 (P : Int32 → Sg → Prop) (tc cl : Int32) (tr : Int64) (x1 : Int32) (K44 : Sg → Prop) (B : Int32 → Sg → Prop) (x2 : Int32) (g : Sg) : Prop :=
  (wX_setCount (fun r_5 => ((r_5 ≤ x2 → (K44 g)) ∧ (¬ r_5 ≤ x2 → (wX_isHeap (fun r_6 => ((r_6 = 0 → (wX_fillings_j37 P tc cl tr B K44 x1 x2 x2 (0 : Int32) g)) ∧ (¬ r_6 = 0 → (wX_fillings_j37 P tc cl tr B K44 x1 x2 x2 (1 : Int32) g)))) tc cl tr g x2)))) tc cl tr g)
def wX_fillings (P : Int32 → Sg → Prop) (tc cl : Int32) (tr : Int64) (g : Sg) (x1 : Int32) : Prop :=
  (wX_isHeight (fun r_7 => ((¬ r_7 = 0 → (∃ n_12, Lp2 (wX_fillings_b11 P tc cl tr x1 (fun (g_8 : Sg) => (∃ n_11, Lp2 (wX_fillings_b46 P tc cl tr x1 (fun (g_9 : Sg) => (∃ n_10, Lp3 (wX_fillings_b65 P tc cl tr) n_10 (0 : Int32) (0 : Int32) g_9))) n_11 (2 : Int32) g_8))) n_12 (0 : Int32) g)) ∧ (r_7 = 0 → (P (-1 : Int32) g)))) x1)
-- X0_digitsFallUpwards ()Z, effect 0, room (1, 21)
def wX_digitsFallUpwards_b12 (P : Int32 → Prop) (tc cl : Int32) (tr : Int64) (g : Sg) (x1 : Int32) (K53 : Prop) (B : Int32 → Prop) (x2 : Int32) : Prop :=
  ((x1 ≤ x2 → K53) ∧ (¬ x1 ≤ x2 → (vp_in x1 8 ∧ (wX_has (fun r_1 => ((r_1 = 0 → (B (x2 + 1))) ∧ (¬ r_1 = 0 → (vp_in x2 8 ∧ (vp_in x1 8 ∧ (((g 7 (x1).toNatClampNeg) ≤ (g 7 (x2).toNatClampNeg) → (B (x2 + 1))) ∧ (¬ (g 7 (x1).toNatClampNeg) ≤ (g 7 (x2).toNatClampNeg) → (P (0 : Int32))))))))) (g 3 (x1).toNatClampNeg) x2))))
def wX_digitsFallUpwards_b2 (P : Int32 → Prop) (tc cl : Int32) (tr : Int64) (g : Sg) (B : Int32 → Prop) (x1 : Int32) : Prop :=
  ((tc ≤ x1 → (P (1 : Int32))) ∧ (¬ tc ≤ x1 → (∃ n_2, Lp1 (wX_digitsFallUpwards_b12 P tc cl tr g x1 ((B (x1 + 1)))) n_2 (0 : Int32))))
def wX_digitsFallUpwards (P : Int32 → Prop) (tc cl : Int32) (tr : Int64) (g : Sg) : Prop :=
  (∃ n_3, Lp1 (wX_digitsFallUpwards_b2 P tc cl tr g) n_3 (0 : Int32))
-- X0_readFilling (II)Z, effect 1, room (2, 43)
def wX_readFilling_b18 (P : Int32 → Sg → Prop) (tc cl : Int32) (tr : Int64) (x1 : Int32) (K51 : Int32 → Sg → Prop) (B : Int32 → Int32 → Sg → Prop) (x3 : Int32) (x4 : Int32) (g : Sg) : Prop :=
  ((tc ≤ x4 → (K51 x3 g)) ∧ (¬ tc ≤ x4 → (¬ (x1 + (1 : Int32)) = 0 ∧ (vp_in x4 8 ∧ ∀ g_1 : Sg, g_1 = up2 g 7 (x4).toNatClampNeg (x3 - x3 / (x1 + (1 : Int32)) * (x1 + (1 : Int32))) → (¬ (x1 + (1 : Int32)) = 0 ∧ (∀ x3_2 : Int32, x3_2 = (x3 / (x1 + (1 : Int32))) → (B x3_2 (x4 + 1) g_1)))))))
def wX_readFilling (P : Int32 → Sg → Prop) (tc cl : Int32) (tr : Int64) (g : Sg) (x1 : Int32) (x2 : Int32) : Prop :=
  (wX_isHeight (fun r_3 => ((r_3 = 0 → (P (0 : Int32) g)) ∧ (¬ r_3 = 0 → ((0 ≤ x2 → (∃ n_7, Lp3 (wX_readFilling_b18 P tc cl tr x1 (fun (x3_4 : Int32) (g_5 : Sg) => ((¬ x3_4 = 0 → (P (0 : Int32) g_5)) ∧ (x3_4 = 0 → (wX_digitsFallUpwards (fun r_6 => ((r_6 = 0 → (P (0 : Int32) g_5)) ∧ (¬ r_6 = 0 → (P (1 : Int32) g_5)))) tc cl tr g_5))))) n_7 x2 (0 : Int32) g)) ∧ (¬ 0 ≤ x2 → (P (0 : Int32) g)))))) x1)
-- X0_flipDigit (II)V, effect 1, room (1, 21)
def wX_flipDigit_j43 (P : Sg → Prop) (tc cl : Int32) (tr : Int64) (B : Int32 → Int32 → Int32 → Sg → Prop) (K77 : Int32 → Int32 → Sg → Prop) (x2 : Int32) (x3 : Int32) (x4 : Int32) (x5 : Int32) (g : Sg) : Prop :=
  (vp_in x2 8 ∧ (wX_has (fun r_1 => ((r_1 = 0 → (B x3 x4 (x5 + 1) g)) ∧ (¬ r_1 = 0 → (vp_in x5 8 ∧ (∀ x4_2 : Int32, x4_2 = (if x4 < (g 7 (x5).toNatClampNeg) then (g 7 (x5).toNatClampNeg) else x4) → (B x3 x4_2 (x5 + 1) g)))))) (g 4 (x2).toNatClampNeg) x5))
def wX_flipDigit_b8 (P : Sg → Prop) (tc cl : Int32) (tr : Int64) (x2 : Int32) (K77 : Int32 → Int32 → Sg → Prop) (B : Int32 → Int32 → Int32 → Sg → Prop) (x3 : Int32) (x4 : Int32) (x5 : Int32) (g : Sg) : Prop :=
  ((tc ≤ x5 → (K77 x3 x4 g)) ∧ (¬ tc ≤ x5 → (vp_in x2 8 ∧ (wX_has (fun r_3 => ((r_3 = 0 → (wX_flipDigit_j43 P tc cl tr B K77 x2 x3 x4 x5 g)) ∧ (¬ r_3 = 0 → (vp_in x5 8 ∧ (∀ x3_4 : Int32, x3_4 = (if (g 7 (x5).toNatClampNeg) < x3 then (g 7 (x5).toNatClampNeg) else x3) → (wX_flipDigit_j43 P tc cl tr B K77 x2 x3_4 x4 x5 g)))))) (g 3 (x2).toNatClampNeg) x5))))
def wX_flipDigit (P : Sg → Prop) (tc cl : Int32) (tr : Int64) (g : Sg) (x1 : Int32) (x2 : Int32) : Prop :=
  (∃ n_9, Lp4 (wX_flipDigit_b8 P tc cl tr x2 (fun (x3_5 : Int32) (x4_6 : Int32) (g_7 : Sg) => (vp_in x2 8 ∧ (vp_in x2 8 ∧ ∀ g_8 : Sg, g_8 = up2 g_7 7 (x2).toNatClampNeg ((x3_5 + x4_6) - (g_7 7 (x2).toNatClampNeg)) → (P g_8))))) n_9 x1 (0 : Int32) (0 : Int32) g)
-- X0_numberOfDigits (I)I, effect 0, room (0, 0)
def wX_numberOfDigits_b9 (P : Int32 → Prop) (tc cl : Int32) (tr : Int64) (g : Sg) (x1 : Int32) (B : Int32 → Int32 → Prop) (x2 : Int32) (x3 : Int32) : Prop :=
  ((x3 < 0 → (P x2)) ∧ (¬ x3 < 0 → (vp_in x3 8 ∧ (∀ x2_1 : Int32, x2_1 = ((x2 * (x1 + (1 : Int32))) + (g 7 (x3).toNatClampNeg)) → (B x2_1 (x3 + (-1)))))))
def wX_numberOfDigits (P : Int32 → Prop) (tc cl : Int32) (tr : Int64) (g : Sg) (x1 : Int32) : Prop :=
  (∀ x3_2 : Int32, x3_2 = (tc - (1 : Int32)) → (∃ n_3, Lp2 (wX_numberOfDigits_b9 P tc cl tr g x1) n_3 (0 : Int32) x3_2))
-- X0_bend (III)I, effect 1, room (3, 67)
def wX_bend (P : Int32 → Sg → Prop) (tc cl : Int32) (tr : Int64) (g : Sg) (x1 : Int32) (x2 : Int32) (x3 : Int32) : Prop :=
  (wX_isThing (fun r_1 => ((r_1 = 0 → (P (-1 : Int32) g)) ∧ (¬ r_1 = 0 → (wX_readFilling (fun r_2 g_3 => ((¬ r_2 = 0 → (wX_flipDigit (fun g_4 => (wX_numberOfDigits (fun r_5 => (P r_5 g_4)) tc cl tr g_4 x1)) tc cl tr g_3 x1 x3)) ∧ (r_2 = 0 → (P (-1 : Int32) g_3)))) tc cl tr g x1 x2)))) tc cl tr g x3)
-- X0_turnDigits (II)V, effect 1, room (2, 46)
def wX_turnDigits_b11 (P : Sg → Prop) (tc cl : Int32) (tr : Int64) (x1 : Int32) (K27 : Sg → Prop) (B : Int32 → Sg → Prop) (x3 : Int32) (g : Sg) : Prop :=
  ((x3 < 0 → (K27 g)) ∧ (¬ x3 < 0 → (wX_flipDigit (fun g_1 => (B (x3 + (-1)) g_1)) tc cl tr g x1 x3)))
def wX_turnDigits_b32 (P : Sg → Prop) (tc cl : Int32) (tr : Int64) (x1 : Int32) (B : Int32 → Sg → Prop) (x3 : Int32) (g : Sg) : Prop :=
  ((cl ≤ x3 → (P g)) ∧ (¬ cl ≤ x3 → (vp_in x3 16 ∧ (wX_flipDigit (fun g_2 => (B (x3 + 1) g_2)) tc cl tr g x1 (g 6 (x3).toNatClampNeg)))))
def wX_turnDigits (P : Sg → Prop) (tc cl : Int32) (tr : Int64) (g : Sg) (x1 : Int32) (x2 : Int32) : Prop :=
  ((¬ x2 = 0 → (∃ n_3, Lp2 (wX_turnDigits_b32 P tc cl tr x1) n_3 (0 : Int32) g)) ∧ (x2 = 0 → (∀ x3_4 : Int32, x3_4 = (tc - (1 : Int32)) → (∃ n_6, Lp2 (wX_turnDigits_b11 P tc cl tr x1 (fun (g_5 : Sg) => (P g_5))) n_6 x3_4 g))))
-- X0_round (III)I, effect 1, room (3, 69)
def wX_round (P : Int32 → Sg → Prop) (tc cl : Int32) (tr : Int64) (g : Sg) (x1 : Int32) (x2 : Int32) (x3 : Int32) : Prop :=
  (wX_isTurnKind (fun r_1 => ((r_1 = 0 → (P (-1 : Int32) g)) ∧ (¬ r_1 = 0 → (wX_readFilling (fun r_2 g_3 => ((¬ r_2 = 0 → (wX_turnDigits (fun g_4 => (wX_numberOfDigits (fun r_5 => (P r_5 g_4)) tc cl tr g_4 x1)) tc cl tr g_3 x1 x3)) ∧ (r_2 = 0 → (P (-1 : Int32) g_3)))) tc cl tr g x1 x2)))) x3)
-- X0_period (III)I, effect 1, room (3, 69)
def wX_period_b21 (P : Int32 → Sg → Prop) (tc cl : Int32) (tr : Int64) (x1 : Int32) (x2 : Int32) (x3 : Int32) (B : Int32 → Sg → Prop) (x4 : Int32) (g : Sg) : Prop :=
  (((1000 : Int32) < x4 → (P (-9 : Int32) g)) ∧ (¬ (1000 : Int32) < x4 → (wX_turnDigits (fun g_1 => (wX_numberOfDigits (fun r_2 => ((¬ r_2 = x2 → (B (x4 + 1) g_1)) ∧ (r_2 = x2 → (P x4 g_1)))) tc cl tr g_1 x1)) tc cl tr g x1 x3)))
def wX_period (P : Int32 → Sg → Prop) (tc cl : Int32) (tr : Int64) (g : Sg) (x1 : Int32) (x2 : Int32) (x3 : Int32) : Prop :=
  (wX_isTurnKind (fun r_3 => ((r_3 = 0 → (P (-1 : Int32) g)) ∧ (¬ r_3 = 0 → (wX_readFilling (fun r_4 g_5 => ((¬ r_4 = 0 → (∃ n_6, Lp2 (wX_period_b21 P tc cl tr x1 x2 x3) n_6 (1 : Int32) g_5)) ∧ (r_4 = 0 → (P (-1 : Int32) g_5)))) tc cl tr g x1 x2)))) x3)
-- X0_countSizes ()V, effect 1, room (3, 63)
def wX_countSizes_b2 (P : Sg → Prop) (tc cl : Int32) (tr : Int64) (K23 : Sg → Prop) (B : Int32 → Sg → Prop) (x1 : Int32) (g : Sg) : Prop :=
  ((tc < x1 → (K23 g)) ∧ (¬ tc < x1 → (vp_in x1 9 ∧ ∀ g_1 : Sg, g_1 = up2 g 8 (x1).toNatClampNeg (0 : Int32) → (B (x1 + 1) g_1))))
def wX_countSizes_b25 (P : Sg → Prop) (tc cl : Int32) (tr : Int64) (B : Int32 → Sg → Prop) (x1 : Int32) (g : Sg) : Prop :=
  (wX_setCount (fun r_2 => ((r_2 ≤ x1 → (P g)) ∧ (¬ r_2 ≤ x1 → (wX_isHeap (fun r_3 => ((r_3 = 0 → (B (x1 + 1) g)) ∧ (¬ r_3 = 0 → (wJ_bitCount (fun r_4 => (vp_in r_4 9 ∧ (vp_in r_4 9 ∧ ∀ g_5 : Sg, g_5 = up2 g 8 (r_4).toNatClampNeg ((g 8 (r_4).toNatClampNeg) + (1 : Int32)) → (B (x1 + 1) g_5)))) x1)))) tc cl tr g x1)))) tc cl tr g)
def wX_countSizes (P : Sg → Prop) (tc cl : Int32) (tr : Int64) (g : Sg) : Prop :=
  (∃ n_8, Lp2 (wX_countSizes_b2 P tc cl tr (fun (g_6 : Sg) => (∃ n_7, Lp2 (wX_countSizes_b25 P tc cl tr) n_7 (0 : Int32) g_6))) n_8 (0 : Int32) g)
-- X0_counts (I)I, effect 1, room (4, 84)
def wX_counts (P : Int32 → Sg → Prop) (tc cl : Int32) (tr : Int64) (g : Sg) (x1 : Int32) : Prop :=
  ((x1 < 0 → (P (-1 : Int32) g)) ∧ (¬ x1 < 0 → ((x1 ≤ tc → (wX_countSizes (fun g_1 => (vp_in x1 9 ∧ (P (g_1 8 (x1).toNatClampNeg) g_1))) tc cl tr g)) ∧ (¬ x1 ≤ tc → (P (-1 : Int32) g)))))
-- X0_sumAtRoot (II)I, effect 1, room (4, 84)
def wX_sumAtRoot_b15 (P : Int32 → Sg → Prop) (tc cl : Int32) (tr : Int64) (x1 : Int32) (x2 : Int32) (K49 : Int32 → Int32 → Sg → Prop) (B : Int32 → Int32 → Int32 → Sg → Prop) (x3 : Int32) (x4 : Int32) (x5 : Int32) (g : Sg) : Prop :=
  ((x5 < 0 → (K49 x3 x4 g)) ∧ (¬ x5 < 0 → (∀ x6_1 : Int32, x6_1 = (x3 + (x2 * x4)) → (vp_in x5 9 ∧ (∀ x3_2 : Int32, x3_2 = ((g 8 (x5).toNatClampNeg) - x4) → (B x3_2 x6_1 (x5 + (-1)) g))))))
def wX_sumAtRoot (P : Int32 → Sg → Prop) (tc cl : Int32) (tr : Int64) (g : Sg) (x1 : Int32) (x2 : Int32) : Prop :=
  (wX_countSizes (fun g_3 => (∃ n_7, Lp4 (wX_sumAtRoot_b15 P tc cl tr x1 x2 (fun (x3_4 : Int32) (x4_5 : Int32) (g_6 : Sg) => ((¬ x1 = (1 : Int32) → ((¬ x1 = (2 : Int32) → ((¬ x4_5 = 0 → (P (-1000000 : Int32) g_6)) ∧ (x4_5 = 0 → (P x3_4 g_6)))) ∧ (x1 = (2 : Int32) → (P (x3_4 - x4_5) g_6)))) ∧ (x1 = (1 : Int32) → (P (x3_4 + x4_5) g_6))))) n_7 (0 : Int32) (0 : Int32) tc g_3)) tc cl tr g)
-- X0_at (I)I, effect 1, room (5, 110)
def wX_at (P : Int32 → Sg → Prop) (tc cl : Int32) (tr : Int64) (g : Sg) (x1 : Int32) : Prop :=
  ((x1 = 1 → (wX_sumAtRoot (fun r_1 g_2 => (P r_1 g_2)) tc cl tr g x1 (2 : Int32))) ∧ (x1 = 2 → (wX_sumAtRoot (fun r_3 g_4 => (P r_3 g_4)) tc cl tr g x1 (-2 : Int32))) ∧ (x1 = 3 → (wX_sumAtRoot (fun r_5 g_6 => (P r_5 g_6)) tc cl tr g x1 (-1 : Int32))) ∧ (x1 = 4 → (wX_sumAtRoot (fun r_7 g_8 => (P r_7 g_8)) tc cl tr g x1 (0 : Int32))) ∧ (x1 = 6 → (wX_sumAtRoot (fun r_9 g_10 => (P r_9 g_10)) tc cl tr g x1 (1 : Int32))) ∧ (¬ x1 = 1 → ¬ x1 = 2 → ¬ x1 = 3 → ¬ x1 = 4 → ¬ x1 = 6 → (P (-1000001 : Int32) g)))
-- X0_stays (II)I, effect 1, room (6, 136)
def wX_stays_b28 (P : Int32 → Sg → Prop) (tc cl : Int32) (tr : Int64) (x2 : Int32) (x3 : Int32) (B : Int32 → Int32 → Sg → Prop) (x4 : Int32) (x5 : Int32) (g : Sg) : Prop :=
  ((x3 ≤ x5 → (P x4 g)) ∧ (¬ x3 ≤ x5 → (vp_in x5 256 ∧ (∀ x6_1 : Int32, x6_1 = (g 11 (x5).toNatClampNeg) → ((x6_1 ≤ 0 → (B x4 (x5 + 1) g)) ∧ (¬ x6_1 ≤ 0 → (¬ x6_1 = 0 ∧ ((¬ (x2 - x2 / x6_1 * x6_1) = 0 → (B x4 (x5 + 1) g)) ∧ ((x2 - x2 / x6_1 * x6_1) = 0 → (∀ x4_2 : Int32, x4_2 = (x4 + x6_1) → (B x4_2 (x5 + 1) g)))))))))))
def wX_stays (P : Int32 → Sg → Prop) (tc cl : Int32) (tr : Int64) (g : Sg) (x1 : Int32) (x2 : Int32) : Prop :=
  (wX_isTurnKind (fun r_3 => ((r_3 = 0 → (P (-1 : Int32) g)) ∧ (¬ r_3 = 0 → (wX_isTurnNumber (fun r_4 => ((¬ r_4 = 0 → (wX_findOrbits (fun r_5 g_6 => (∃ n_7, Lp3 (wX_stays_b28 P tc cl tr x2 r_5) n_7 (0 : Int32) (0 : Int32) g_6)) tc cl tr g x1)) ∧ (r_4 = 0 → (P (-1 : Int32) g)))) x2)))) x1)
-- X0_pairCount ()I, effect 0, room (1, 20)
def wX_pairCount_b4 (P : Int32 → Prop) (tc cl : Int32) (tr : Int64) (g : Sg) (B : Int32 → Int32 → Prop) (x1 : Int32) (x2 : Int32) : Prop :=
  ((tc ≤ x2 → (P x1)) ∧ (¬ tc ≤ x2 → (vp_in x2 8 ∧ (wJ_bitCount (fun r_1 => (∀ x1_2 : Int32, x1_2 = (x1 + r_1) → (B x1_2 (x2 + 1)))) (g 3 (x2).toNatClampNeg)))))
def wX_pairCount (P : Int32 → Prop) (tc cl : Int32) (tr : Int64) (g : Sg) : Prop :=
  (∃ n_3, Lp2 (wX_pairCount_b4 P tc cl tr g) n_3 (0 : Int32) (0 : Int32))
-- X0_count (I)I, effect 0, room (2, 42)
def wX_count (P : Int32 → Prop) (tc cl : Int32) (tr : Int64) (g : Sg) (x1 : Int32) : Prop :=
  ((x1 = 0 → (P tc)) ∧ (x1 = 1 → (P cl)) ∧ (x1 = 2 → (wX_pairCount (fun r_1 => (P r_1)) tc cl tr g)) ∧ (¬ x1 = 0 → ¬ x1 = 1 → ¬ x1 = 2 → (P (-1 : Int32))))
-- X0_trace ()J, effect 0, room (0, 0)
def wX_trace (P : Int64 → Prop) (tc cl : Int32) (tr : Int64) (g : Sg) : Prop :=
  (P tr)
-- X1_in (III)Z, effect 0, room (0, 0)
def wM_in (P : Int32 → Prop) (x0 : Int32) (x1 : Int32) (x2 : Int32) : Prop :=
  ((x0 < x1 → (P (0 : Int32))) ∧ (¬ x0 < x1 → ((x2 < x0 → (P (0 : Int32))) ∧ (¬ x2 < x0 → (P (1 : Int32))))))
-- X1_isThing (I)Z, effect 0, room (1, 22)
def wM_isThing (P : Int32 → Prop) (tc cl : Int32) (tr : Int64) (g : Sg) (x1 : Int32) : Prop :=
  (wM_in (fun r_1 => (isB r_1 ∧ P r_1)) x1 (0 : Int32) (tc - (1 : Int32)))
-- X1_things (I)I, effect 2, room (1, 22)
def wM_things_b29 (P : Int32 → Int32 → Int32 → Int64 → Sg → Prop) (x2 : Int32) (K48 : Int32 → Int32 → Int64 → Sg → Prop) (B : Int32 → Int32 → Int32 → Int64 → Sg → Prop) (x3 : Int32) (tc : Int32) (cl : Int32) (tr : Int64) (g : Sg) : Prop :=
  (((64 : Int32) ≤ x3 → (K48 tc cl tr g)) ∧ (¬ (64 : Int32) ≤ x3 → (vp_in x3 64 ∧ ∀ g_1 : Sg, g_1 = up2 g 1 (x3).toNatClampNeg (vp_nar .boolean (0 : Int32)) → (B (x3 + 1) tc cl tr g_1))))
def wM_things_b50 (P : Int32 → Int32 → Int32 → Int64 → Sg → Prop) (x2 : Int32) (B : Int32 → Int32 → Int32 → Int64 → Sg → Prop) (x3 : Int32) (tc : Int32) (cl : Int32) (tr : Int64) (g : Sg) : Prop :=
  (((8 : Int32) ≤ x3 → (P x2 tc cl tr g)) ∧ (¬ (8 : Int32) ≤ x3 → (vp_in x3 8 ∧ ∀ g_2 : Sg, g_2 = up2 g 2 (x3).toNatClampNeg (0 : Int32) → (B (x3 + 1) tc cl tr g_2))))
def wM_things (P : Int32 → Int32 → Int32 → Int64 → Sg → Prop) (tc cl : Int32) (tr : Int64) (g : Sg) (x1 : Int32) : Prop :=
  (wM_in (fun r_3 => ((¬ r_3 = 0 → (∃ n_9, Lp5 (wM_things_b29 P tc (fun (tc_4 : Int32) (cl_5 : Int32) (tr_6 : Int64) (g_7 : Sg) => (∃ n_8, Lp5 (wM_things_b50 P tc) n_8 (0 : Int32) tc_4 cl_5 tr_6 g_7))) n_9 (0 : Int32) x1 (0 : Int32) tr g)) ∧ (r_3 = 0 → (P (-1 : Int32) tc cl tr g)))) x1 (1 : Int32) (8 : Int32))
-- X1_lay (II)I, effect 1, room (2, 43)
def wM_lay_j148 (P : Int32 → Sg → Prop) (tc cl : Int32) (tr : Int64) (B : Int32 → Sg → Prop) (K155 : Sg → Prop) (x3 : Int32) (x4 : Int32) (x5 : Int32) (y1 : Int32) (y2 : Int32) (g : Sg) : Prop :=
  (vp_in y1 64 ∧ ∀ g_1 : Sg, g_1 = up2 g 1 (y1).toNatClampNeg (vp_nar .boolean y2) → (B (x5 + 1) g_1))
def wM_lay_j147 (P : Int32 → Sg → Prop) (tc cl : Int32) (tr : Int64) (B : Int32 → Sg → Prop) (K155 : Sg → Prop) (x3 : Int32) (x4 : Int32) (x5 : Int32) (y1 : Int32) (g : Sg) : Prop :=
  (wM_lay_j148 P tc cl tr B K155 x3 x4 x5 y1 (0 : Int32) g)
def wM_lay_j143 (P : Int32 → Sg → Prop) (tc cl : Int32) (tr : Int64) (B : Int32 → Sg → Prop) (K155 : Sg → Prop) (x3 : Int32) (x4 : Int32) (x5 : Int32) (y1 : Int32) (g : Sg) : Prop :=
  (wM_lay_j148 P tc cl tr B K155 x3 x4 x5 y1 (1 : Int32) g)
def wM_lay_b76 (P : Int32 → Sg → Prop) (tc cl : Int32) (tr : Int64) (x3 : Int32) (x4 : Int32) (K155 : Sg → Prop) (B : Int32 → Sg → Prop) (x5 : Int32) (g : Sg) : Prop :=
  ((tc ≤ x5 → (K155 g)) ∧ (¬ tc ≤ x5 → (vp_in (((8 : Int32) * x4) + x5) 64 ∧ ((¬ (g 1 ((((8 : Int32) * x4) + x5)).toNatClampNeg) = 0 → (wM_lay_j143 P tc cl tr B K155 x3 x4 x5 (((8 : Int32) * x4) + x5) g)) ∧ ((g 1 ((((8 : Int32) * x4) + x5)).toNatClampNeg) = 0 → (vp_in (((8 : Int32) * x4) + x3) 64 ∧ (((g 1 ((((8 : Int32) * x4) + x3)).toNatClampNeg) = 0 → (wM_lay_j147 P tc cl tr B K155 x3 x4 x5 (((8 : Int32) * x4) + x5) g)) ∧ (¬ (g 1 ((((8 : Int32) * x4) + x3)).toNatClampNeg) = 0 → (vp_in (((8 : Int32) * x3) + x5) 64 ∧ (((g 1 ((((8 : Int32) * x3) + x5)).toNatClampNeg) = 0 → (wM_lay_j147 P tc cl tr B K155 x3 x4 x5 (((8 : Int32) * x4) + x5) g)) ∧ (¬ (g 1 ((((8 : Int32) * x3) + x5)).toNatClampNeg) = 0 → (wM_lay_j143 P tc cl tr B K155 x3 x4 x5 (((8 : Int32) * x4) + x5) g))))))))))))
def wM_lay_b64 (P : Int32 → Sg → Prop) (tc cl : Int32) (tr : Int64) (x3 : Int32) (K161 : Sg → Prop) (B : Int32 → Sg → Prop) (x4 : Int32) (g : Sg) : Prop :=
  ((tc ≤ x4 → (K161 g)) ∧ (¬ tc ≤ x4 → (∃ n_3, Lp2 (wM_lay_b76 P tc cl tr x3 x4 (fun (g_2 : Sg) => (B (x4 + 1) g_2))) n_3 (0 : Int32) g)))
def wM_lay_b53 (P : Int32 → Sg → Prop) (tc cl : Int32) (tr : Int64) (B : Int32 → Sg → Prop) (x3 : Int32) (g : Sg) : Prop :=
  ((tc ≤ x3 → (P (1 : Int32) g)) ∧ (¬ tc ≤ x3 → (∃ n_5, Lp2 (wM_lay_b64 P tc cl tr x3 (fun (g_4 : Sg) => (B (x3 + 1) g_4))) n_5 (0 : Int32) g)))
def wM_lay (P : Int32 → Sg → Prop) (tc cl : Int32) (tr : Int64) (g : Sg) (x1 : Int32) (x2 : Int32) : Prop :=
  (wM_isThing (fun r_6 => ((r_6 = 0 → (P (-1 : Int32) g)) ∧ (¬ r_6 = 0 → (wM_isThing (fun r_7 => ((r_7 = 0 → (P (-1 : Int32) g)) ∧ (¬ r_7 = 0 → ((x1 < x2 → (vp_in (((8 : Int32) * x1) + x2) 64 ∧ (((g 1 ((((8 : Int32) * x1) + x2)).toNatClampNeg) = 0 → (vp_in (((8 : Int32) * x1) + x2) 64 ∧ ∀ g_8 : Sg, g_8 = up2 g 1 ((((8 : Int32) * x1) + x2)).toNatClampNeg (vp_nar .boolean (1 : Int32)) → (∃ n_9, Lp2 (wM_lay_b53 P tc cl tr) n_9 (0 : Int32) g_8))) ∧ (¬ (g 1 ((((8 : Int32) * x1) + x2)).toNatClampNeg) = 0 → (P (0 : Int32) g))))) ∧ (¬ x1 < x2 → (P (-1 : Int32) g)))))) tc cl tr g x2)))) tc cl tr g x1)
-- X1_below (II)I, effect 0, room (2, 43)
def wM_below_j16 (P : Int32 → Prop) (tc cl : Int32) (tr : Int64) (g : Sg) : Prop :=
  (P (-1 : Int32))
def wM_below (P : Int32 → Prop) (tc cl : Int32) (tr : Int64) (g : Sg) (x1 : Int32) (x2 : Int32) : Prop :=
  (wM_isThing (fun r_1 => ((r_1 = 0 → (wM_below_j16 P tc cl tr g)) ∧ (¬ r_1 = 0 → (wM_isThing (fun r_2 => ((¬ r_2 = 0 → (vp_in (((8 : Int32) * x1) + x2) 64 ∧ (((g 1 ((((8 : Int32) * x1) + x2)).toNatClampNeg) = 0 → (P (0 : Int32))) ∧ (¬ (g 1 ((((8 : Int32) * x1) + x2)).toNatClampNeg) = 0 → (P (1 : Int32)))))) ∧ (r_2 = 0 → (wM_below_j16 P tc cl tr g)))) tc cl tr g x2)))) tc cl tr g x1)
-- X1_weight (II)I, effect 1, room (2, 43)
def wM_weight (P : Int32 → Sg → Prop) (tc cl : Int32) (tr : Int64) (g : Sg) (x1 : Int32) (x2 : Int32) : Prop :=
  (wM_isThing (fun r_1 => ((r_1 = 0 → (P (-1000000 : Int32) g)) ∧ (¬ r_1 = 0 → (wM_in (fun r_2 => ((¬ r_2 = 0 → (vp_in x1 8 ∧ (∀ x3_3 : Int32, x3_3 = (g 2 (x1).toNatClampNeg) → (vp_in x1 8 ∧ ∀ g_4 : Sg, g_4 = up2 g 2 (x1).toNatClampNeg x2 → (P x3_3 g_4))))) ∧ (r_2 = 0 → (P (-1000000 : Int32) g)))) x2 (-9 : Int32) (9 : Int32))))) tc cl tr g x1)
-- X1_say (I)I, effect 2, room (2, 43)
def wM_say (P : Int32 → Int32 → Int32 → Int64 → Sg → Prop) (tc cl : Int32) (tr : Int64) (g : Sg) (x1 : Int32) : Prop :=
  (wM_isThing (fun r_1 => ((¬ r_1 = 0 → ((¬ cl = (16 : Int32) → (vp_in cl 16 ∧ ∀ g_2 : Sg, g_2 = up2 g 3 (cl).toNatClampNeg x1 → (∀ cl_3 : Int32, cl_3 = (cl + (1 : Int32)) → (P cl_3 tc cl_3 tr g_2)))) ∧ (cl = (16 : Int32) → (P (-3 : Int32) tc cl tr g)))) ∧ (r_1 = 0 → (P (-1 : Int32) tc cl tr g)))) tc cl tr g x1)
-- X1_hush ()I, effect 2, room (0, 0)
def wM_hush (P : Int32 → Int32 → Int32 → Int64 → Sg → Prop) (tc cl : Int32) (tr : Int64) (g : Sg) : Prop :=
  (P cl tc (0 : Int32) tr g)
-- X1_has (II)Z, effect 0, room (0, 0)
def wM_has (P : Int32 → Prop) (x0 : Int32) (x1 : Int32) : Prop :=
  ((¬ ((x0 >>> (x1 &&& 31)) &&& (1 : Int32)) = (1 : Int32) → (P (0 : Int32))) ∧ (((x0 >>> (x1 &&& 31)) &&& (1 : Int32)) = (1 : Int32) → (P (1 : Int32))))
-- X1_isHeap (I)Z, effect 0, room (1, 22)
def wM_isHeap_j82 (P : Int32 → Prop) (tc cl : Int32) (tr : Int64) (g : Sg) (B : Int32 → Int32 → Prop) (K90 : Int32 → Prop) (x1 : Int32) (x3 : Int32) (x4 : Int32) : Prop :=
  (B (0 : Int32) (x4 + 1))
def wM_isHeap_j78 (P : Int32 → Prop) (tc cl : Int32) (tr : Int64) (g : Sg) (B : Int32 → Int32 → Prop) (K90 : Int32 → Prop) (x1 : Int32) (x3 : Int32) (x4 : Int32) : Prop :=
  (B (1 : Int32) (x4 + 1))
def wM_isHeap_b33 (P : Int32 → Prop) (tc cl : Int32) (tr : Int64) (g : Sg) (x1 : Int32) (x3 : Int32) (K90 : Int32 → Prop) (B : Int32 → Int32 → Prop) (x2 : Int32) (x4 : Int32) : Prop :=
  ((tc ≤ x4 → (K90 x2)) ∧ (¬ tc ≤ x4 → ((x2 = 0 → (wM_isHeap_j82 P tc cl tr g B K90 x1 x3 x4)) ∧ (¬ x2 = 0 → (vp_in (((8 : Int32) * x3) + x4) 64 ∧ (((g 1 ((((8 : Int32) * x3) + x4)).toNatClampNeg) = 0 → (wM_isHeap_j78 P tc cl tr g B K90 x1 x3 x4)) ∧ (¬ (g 1 ((((8 : Int32) * x3) + x4)).toNatClampNeg) = 0 → (wM_has (fun r_1 => ((r_1 = 0 → (wM_isHeap_j78 P tc cl tr g B K90 x1 x3 x4)) ∧ (¬ r_1 = 0 → (wM_has (fun r_2 => ((r_2 = 0 → (wM_isHeap_j82 P tc cl tr g B K90 x1 x3 x4)) ∧ (¬ r_2 = 0 → (wM_isHeap_j78 P tc cl tr g B K90 x1 x3 x4)))) x1 x3)))) x1 x4))))))))
def wM_isHeap_b22 (P : Int32 → Prop) (tc cl : Int32) (tr : Int64) (g : Sg) (x1 : Int32) (B : Int32 → Int32 → Prop) (x2 : Int32) (x3 : Int32) : Prop :=
  ((tc ≤ x3 → (isB x2 ∧ P x2)) ∧ (¬ tc ≤ x3 → (∃ n_4, Lp2 (wM_isHeap_b33 P tc cl tr g x1 x3 (fun (x2_3 : Int32) => (B x2_3 (x3 + 1)))) n_4 x2 (0 : Int32))))
def wM_isHeap (P : Int32 → Prop) (tc cl : Int32) (tr : Int64) (g : Sg) (x1 : Int32) : Prop :=
  (wM_in (fun r_5 => ((¬ r_5 = 0 → (∃ n_6, Lp2 (wM_isHeap_b22 P tc cl tr g x1) n_6 (1 : Int32) (0 : Int32))) ∧ (r_5 = 0 → (P (0 : Int32))))) x1 (0 : Int32) (((1 : Int32) <<< (tc &&& 31)) - (1 : Int32)))
-- X1_heap (I)I, effect 0, room (2, 46)
def wM_heap (P : Int32 → Prop) (tc cl : Int32) (tr : Int64) (g : Sg) (x1 : Int32) : Prop :=
  (wM_in (fun r_1 => ((¬ r_1 = 0 → (wM_isHeap (fun r_2 => ((r_2 = 0 → (P (0 : Int32))) ∧ (¬ r_2 = 0 → (P (1 : Int32))))) tc cl tr g x1)) ∧ (r_1 = 0 → (P (-1 : Int32))))) x1 (0 : Int32) (((1 : Int32) <<< (tc &&& 31)) - (1 : Int32)))
-- X1_many ()I, effect 0, room (2, 46)
def wM_many_j28 (P : Int32 → Prop) (tc cl : Int32) (tr : Int64) (g : Sg) (B : Int32 → Int32 → Prop) (x2 : Int32) (y0 : Int32) (y1 : Int32) : Prop :=
  (∀ x1_1 : Int32, x1_1 = (y0 + y1) → (B x1_1 (x2 + 1)))
def wM_many_b4 (P : Int32 → Prop) (tc cl : Int32) (tr : Int64) (g : Sg) (B : Int32 → Int32 → Prop) (x1 : Int32) (x2 : Int32) : Prop :=
  ((((1 : Int32) <<< (tc &&& 31)) ≤ x2 → (P x1)) ∧ (¬ ((1 : Int32) <<< (tc &&& 31)) ≤ x2 → (wM_isHeap (fun r_2 => ((r_2 = 0 → (wM_many_j28 P tc cl tr g B x2 x1 (0 : Int32))) ∧ (¬ r_2 = 0 → (wM_many_j28 P tc cl tr g B x2 x1 (1 : Int32))))) tc cl tr g x2)))
def wM_many (P : Int32 → Prop) (tc cl : Int32) (tr : Int64) (g : Sg) : Prop :=
  (∃ n_3, Lp2 (wM_many_b4 P tc cl tr g) n_3 (0 : Int32) (0 : Int32))
-- X1_flipped (II)I, effect 0, room (2, 46)
def wM_flipped (P : Int32 → Prop) (tc cl : Int32) (tr : Int64) (g : Sg) (x1 : Int32) (x2 : Int32) : Prop :=
  (∀ x3_1 : Int32, x3_1 = (x1 ^^^ ((1 : Int32) <<< (x2 &&& 31))) → (wM_isHeap (fun r_2 => ((r_2 = 0 → (P x1)) ∧ (¬ r_2 = 0 → (P x3_1)))) tc cl tr g x3_1))
-- X1_flip (II)I, effect 0, room (3, 69)
def wM_flip (P : Int32 → Prop) (tc cl : Int32) (tr : Int64) (g : Sg) (x1 : Int32) (x2 : Int32) : Prop :=
  (wM_isHeap (fun r_1 => ((r_1 = 0 → (P (-1 : Int32))) ∧ (¬ r_1 = 0 → (wM_isThing (fun r_2 => ((r_2 = 0 → (P (-1 : Int32))) ∧ (¬ r_2 = 0 → (wM_flipped (fun r_3 => (P r_3)) tc cl tr g x1 x2)))) tc cl tr g x2)))) tc cl tr g x1)
-- X1_turned (II)I, effect 0, room (3, 69)
def wM_turned_b10 (P : Int32 → Prop) (tc cl : Int32) (tr : Int64) (g : Sg) (B : Int32 → Int32 → Prop) (x3 : Int32) (x4 : Int32) : Prop :=
  ((cl ≤ x4 → (P x3)) ∧ (¬ cl ≤ x4 → (vp_in x4 16 ∧ (wM_flipped (fun r_1 => (B r_1 (x4 + 1))) tc cl tr g x3 (g 3 (x4).toNatClampNeg)))))
def wM_turned_j152 (P : Int32 → Prop) (tc cl : Int32) (tr : Int64) (g : Sg) (B : Int32 → Int32 → Int32 → Prop) (K161 : Int32 → Int32 → Prop) (x1 : Int32) (x4 : Int32) (x5 : Int32) (x6 : Int32) (x8 : Int32) (y0 : Int32) (y1 : Int32) : Prop :=
  (∀ x7_2 : Int32, x7_2 = (y0 ||| y1) → (B x6 x7_2 (x8 + 1)))
def wM_turned_j124 (P : Int32 → Prop) (tc cl : Int32) (tr : Int64) (g : Sg) (B : Int32 → Int32 → Int32 → Prop) (K161 : Int32 → Int32 → Prop) (x1 : Int32) (x4 : Int32) (x5 : Int32) (x7 : Int32) (x8 : Int32) (y0 : Int32) : Prop :=
  (vp_in (((8 : Int32) * x8) + x5) 64 ∧ (((g 1 ((((8 : Int32) * x8) + x5)).toNatClampNeg) = 0 → (wM_turned_j152 P tc cl tr g B K161 x1 x4 x5 y0 x8 x7 (0 : Int32))) ∧ (¬ (g 1 ((((8 : Int32) * x8) + x5)).toNatClampNeg) = 0 → (wM_turned_j152 P tc cl tr g B K161 x1 x4 x5 y0 x8 x7 ((1 : Int32) <<< (x8 &&& 31))))))
def wM_turned_j123 (P : Int32 → Prop) (tc cl : Int32) (tr : Int64) (g : Sg) (B : Int32 → Int32 → Int32 → Prop) (K161 : Int32 → Int32 → Prop) (x1 : Int32) (x4 : Int32) (x5 : Int32) (x7 : Int32) (x8 : Int32) : Prop :=
  (wM_turned_j124 P tc cl tr g B K161 x1 x4 x5 x7 x8 (0 : Int32))
def wM_turned_j119 (P : Int32 → Prop) (tc cl : Int32) (tr : Int64) (g : Sg) (B : Int32 → Int32 → Int32 → Prop) (K161 : Int32 → Int32 → Prop) (x1 : Int32) (x4 : Int32) (x5 : Int32) (x7 : Int32) (x8 : Int32) : Prop :=
  (wM_turned_j124 P tc cl tr g B K161 x1 x4 x5 x7 x8 (1 : Int32))
def wM_turned_b80 (P : Int32 → Prop) (tc cl : Int32) (tr : Int64) (g : Sg) (x1 : Int32) (x4 : Int32) (x5 : Int32) (K161 : Int32 → Int32 → Prop) (B : Int32 → Int32 → Int32 → Prop) (x6 : Int32) (x7 : Int32) (x8 : Int32) : Prop :=
  ((tc ≤ x8 → (K161 x6 x7)) ∧ (¬ tc ≤ x8 → ((x6 = 0 → (wM_turned_j123 P tc cl tr g B K161 x1 x4 x5 x7 x8)) ∧ (¬ x6 = 0 → (vp_in (((8 : Int32) * x8) + x5) 64 ∧ (((g 1 ((((8 : Int32) * x8) + x5)).toNatClampNeg) = 0 → (wM_turned_j119 P tc cl tr g B K161 x1 x4 x5 x7 x8)) ∧ (¬ (g 1 ((((8 : Int32) * x8) + x5)).toNatClampNeg) = 0 → (wM_has (fun r_3 => ((r_3 = 0 → (wM_turned_j123 P tc cl tr g B K161 x1 x4 x5 x7 x8)) ∧ (¬ r_3 = 0 → (wM_turned_j119 P tc cl tr g B K161 x1 x4 x5 x7 x8)))) x1 x8))))))))
def wM_turned_j174 (P : Int32 → Prop) (tc cl : Int32) (tr : Int64) (g : Sg) (B : Int32 → Int32 → Prop) (x1 : Int32) (x5 : Int32) (y0 : Int32) (y1 : Int32) : Prop :=
  (∀ x4_4 : Int32, x4_4 = (y0 ||| y1) → (B x4_4 (x5 + 1)))
def wM_turned_j69 (P : Int32 → Prop) (tc cl : Int32) (tr : Int64) (g : Sg) (B : Int32 → Int32 → Prop) (x1 : Int32) (x4 : Int32) (x5 : Int32) (y0 : Int32) : Prop :=
  (∀ x7_5 : Int32, x7_5 = ((1 : Int32) <<< (x5 &&& 31)) → (∃ n_8, Lp3 (wM_turned_b80 P tc cl tr g x1 x4 x5 (fun (x6_6 : Int32) (x7_7 : Int32) => ((x6_6 = 0 → (wM_turned_j174 P tc cl tr g B x1 x5 x4 (0 : Int32))) ∧ (¬ x6_6 = 0 → (wM_turned_j174 P tc cl tr g B x1 x5 x4 x7_7))))) n_8 y0 x7_5 (0 : Int32)))
def wM_turned_b46 (P : Int32 → Prop) (tc cl : Int32) (tr : Int64) (g : Sg) (x1 : Int32) (B : Int32 → Int32 → Prop) (x4 : Int32) (x5 : Int32) : Prop :=
  ((tc ≤ x5 → (P x4)) ∧ (¬ tc ≤ x5 → (wM_has (fun r_9 => ((¬ r_9 = 0 → (wM_turned_j69 P tc cl tr g B x1 x4 x5 (0 : Int32))) ∧ (r_9 = 0 → (wM_turned_j69 P tc cl tr g B x1 x4 x5 (1 : Int32))))) x1 x5)))
def wM_turned (P : Int32 → Prop) (tc cl : Int32) (tr : Int64) (g : Sg) (x1 : Int32) (x2 : Int32) : Prop :=
  ((¬ x2 = (1 : Int32) → (∃ n_10, Lp2 (wM_turned_b46 P tc cl tr g x1) n_10 (0 : Int32) (0 : Int32))) ∧ (x2 = (1 : Int32) → (∃ n_11, Lp2 (wM_turned_b10 P tc cl tr g) n_11 x1 (0 : Int32))))
-- X1_isKind (I)Z, effect 0, room (1, 22)
def wM_isKind (P : Int32 → Prop) (x0 : Int32) : Prop :=
  (wM_in (fun r_1 => (isB r_1 ∧ P r_1)) x0 (0 : Int32) (1 : Int32))
-- X1_turn (III)I, effect 0, room (4, 97)
def wM_turn_b34 (P : Int32 → Prop) (tc cl : Int32) (tr : Int64) (g : Sg) (x2 : Int32) (x3 : Int32) (B : Int32 → Int32 → Prop) (x4 : Int32) (x5 : Int32) : Prop :=
  ((x3 ≤ x5 → (P x4)) ∧ (¬ x3 ≤ x5 → (wM_turned (fun r_1 => (B r_1 (x5 + 1))) tc cl tr g x4 x2)))
def wM_turn (P : Int32 → Prop) (tc cl : Int32) (tr : Int64) (g : Sg) (x1 : Int32) (x2 : Int32) (x3 : Int32) : Prop :=
  (wM_isHeap (fun r_2 => ((r_2 = 0 → (P (-1 : Int32))) ∧ (¬ r_2 = 0 → (wM_isKind (fun r_3 => ((r_3 = 0 → (P (-1 : Int32))) ∧ (¬ r_3 = 0 → (wM_in (fun r_4 => ((¬ r_4 = 0 → (∃ n_5, Lp2 (wM_turn_b34 P tc cl tr g x2 x3) n_5 x1 (0 : Int32))) ∧ (r_4 = 0 → (P (-1 : Int32))))) x3 (0 : Int32) (1000 : Int32))))) x2)))) tc cl tr g x1)
-- X1_orbitOf (II)I, effect 0, room (4, 97)
def wM_orbitOf_b10 (P : Int32 → Prop) (tc cl : Int32) (tr : Int64) (g : Sg) (x1 : Int32) (x2 : Int32) (B : Int32 → Int32 → Prop) (x3 : Int32) (x4 : Int32) : Prop :=
  ((x4 = x1 → (P x3)) ∧ (¬ x4 = x1 → (wM_turned (fun r_1 => (B (x3 + 1) r_1)) tc cl tr g x4 x2)))
def wM_orbitOf (P : Int32 → Prop) (tc cl : Int32) (tr : Int64) (g : Sg) (x1 : Int32) (x2 : Int32) : Prop :=
  (wM_turned (fun r_2 => (∃ n_3, Lp2 (wM_orbitOf_b10 P tc cl tr g x1 x2) n_3 (1 : Int32) r_2)) tc cl tr g x1 x2)
-- X1_orbit (II)I, effect 0, room (5, 121)
def wM_orbit (P : Int32 → Prop) (tc cl : Int32) (tr : Int64) (g : Sg) (x1 : Int32) (x2 : Int32) : Prop :=
  (wM_isHeap (fun r_1 => ((r_1 = 0 → (P (-1 : Int32))) ∧ (¬ r_1 = 0 → (wM_isKind (fun r_2 => ((r_2 = 0 → (P (-1 : Int32))) ∧ (¬ r_2 = 0 → (wM_orbitOf (fun r_3 => (P r_3)) tc cl tr g x1 x2)))) x2)))) tc cl tr g x1)
-- X1_common (JJ)J, effect 0, room (0, 0)
def wM_common_b17 (P : Int64 → Prop) (B : Int64 → Int64 → Prop) (x4 : Int64) (x6 : Int64) : Prop :=
  (((lg_cmp x6 (0 : Int64)) = 0 → (P x4)) ∧ (¬ (lg_cmp x6 (0 : Int64)) = 0 → (¬ x6 = 0 ∧ (∀ x8_1 : Int64, x8_1 = (x4 - x4 / x6 * x6) → (B x6 x8_1)))))
def wM_common_j12 (P : Int64 → Prop) (x2 : Int64) (y0 : Int64) : Prop :=
  (∃ n_2, Lp2 (wM_common_b17 P) n_2 y0 x2)
def wM_common (P : Int64 → Prop) (x0 : Int64) (x2 : Int64) : Prop :=
  ((0 ≤ (lg_cmp x0 (0 : Int64)) → (wM_common_j12 P x2 x0)) ∧ (¬ 0 ≤ (lg_cmp x0 (0 : Int64)) → (wM_common_j12 P x2 (-x0))))
-- X1_orbits (II)I, effect 1, room (4, 97)
def wM_orbits_b20 (P : Int32 → Sg → Prop) (tc cl : Int32) (tr : Int64) (x1 : Int32) (x2 : Int32) (K40 : Sg → Prop) (B : Int32 → Sg → Prop) (x3 : Int32) (g : Sg) : Prop :=
  (((256 : Int32) ≤ x3 → (K40 g)) ∧ (¬ (256 : Int32) ≤ x3 → (vp_in x3 256 ∧ ∀ g_1 : Sg, g_1 = up2 g 6 (x3).toNatClampNeg (vp_nar .boolean (0 : Int32)) → (B (x3 + 1) g_1))))
def wM_orbits_b88 (P : Int32 → Sg → Prop) (tc cl : Int32) (tr : Int64) (x1 : Int32) (x2 : Int32) (x3 : Int32) (x4 : Int32) (x5 : Int64) (x7 : Int32) (K121 : Int32 → Sg → Prop) (B : Int32 → Int32 → Sg → Prop) (x8 : Int32) (x9 : Int32) (g : Sg) : Prop :=
  (vp_in x9 256 ∧ ((¬ (g 6 (x9).toNatClampNeg) = 0 → (K121 x8 g)) ∧ ((g 6 (x9).toNatClampNeg) = 0 → (vp_in x9 256 ∧ ∀ g_2 : Sg, g_2 = up2 g 6 (x9).toNatClampNeg (vp_nar .boolean (1 : Int32)) → (wM_turned (fun r_3 => (B (x8 + 1) r_3 g_2)) tc cl tr g_2 x9 x1)))))
def wM_orbits_j169 (P : Int32 → Sg → Prop) (tc cl : Int32) (tr : Int64) (B : Int32 → Int32 → Int64 → Int32 → Sg → Prop) (K177 : Int32 → Int32 → Int64 → Sg → Prop) (x1 : Int32) (x2 : Int32) (x3 : Int32) (x4 : Int32) (x7 : Int32) (y0 : Int64) (g : Sg) : Prop :=
  (B x3 x4 y0 (x7 + 1) g)
def wM_orbits_j138 (P : Int32 → Sg → Prop) (tc cl : Int32) (tr : Int64) (B : Int32 → Int32 → Int64 → Int32 → Sg → Prop) (K177 : Int32 → Int32 → Int64 → Sg → Prop) (x1 : Int32) (x2 : Int32) (x3 : Int32) (x5 : Int64) (x7 : Int32) (x8 : Int32) (y0 : Int32) (g : Sg) : Prop :=
  (((lg_cmp x5 (1000000000 : Int64)) ≤ 0 → (wM_common (fun r_4 => (¬ r_4 = 0 ∧ (wM_orbits_j169 P tc cl tr B K177 x1 x2 x3 y0 x7 ((x5 / r_4) * (Int32.toInt64 x8)) g))) x5 (Int32.toInt64 x8))) ∧ (¬ (lg_cmp x5 (1000000000 : Int64)) ≤ 0 → (wM_orbits_j169 P tc cl tr B K177 x1 x2 x3 y0 x7 x5 g)))
def wM_orbits_b51 (P : Int32 → Sg → Prop) (tc cl : Int32) (tr : Int64) (x1 : Int32) (x2 : Int32) (K177 : Int32 → Int32 → Int64 → Sg → Prop) (B : Int32 → Int32 → Int64 → Int32 → Sg → Prop) (x3 : Int32) (x4 : Int32) (x5 : Int64) (x7 : Int32) (g : Sg) : Prop :=
  ((((1 : Int32) <<< (tc &&& 31)) ≤ x7 → (K177 x3 x4 x5 g)) ∧ (¬ ((1 : Int32) <<< (tc &&& 31)) ≤ x7 → (wM_isHeap (fun r_5 => ((r_5 = 0 → (B x3 x4 x5 (x7 + 1) g)) ∧ (¬ r_5 = 0 → (vp_in x7 256 ∧ ((¬ (g 6 (x7).toNatClampNeg) = 0 → (B x3 x4 x5 (x7 + 1) g)) ∧ ((g 6 (x7).toNatClampNeg) = 0 → (∃ n_8, Lp3 (wM_orbits_b88 P tc cl tr x1 x2 x3 x4 x5 x7 (fun (x8_6 : Int32) (g_7 : Sg) => ((x8_6 ≤ x4 → (wM_orbits_j138 P tc cl tr B K177 x1 x2 (x3 + 1) x5 x7 x8_6 x4 g_7)) ∧ (¬ x8_6 ≤ x4 → (wM_orbits_j138 P tc cl tr B K177 x1 x2 (x3 + 1) x5 x7 x8_6 x8_6 g_7))))) n_8 (0 : Int32) x7 g))))))) tc cl tr g x7)))
def wM_orbits (P : Int32 → Sg → Prop) (tc cl : Int32) (tr : Int64) (g : Sg) (x1 : Int32) (x2 : Int32) : Prop :=
  (wM_isKind (fun r_9 => ((r_9 = 0 → (P (-1 : Int32) g)) ∧ (¬ r_9 = 0 → (wM_in (fun r_10 => ((¬ r_10 = 0 → (∃ n_17, Lp2 (wM_orbits_b20 P tc cl tr x1 x2 (fun (g_11 : Sg) => (∃ n_16, Lp5 (wM_orbits_b51 P tc cl tr x1 x2 (fun (x3_12 : Int32) (x4_13 : Int32) (x5_14 : Int64) (g_15 : Sg) => ((¬ x2 = 0 → ((¬ x2 = (2 : Int32) → (((lg_cmp x5_14 (1000000000 : Int64)) ≤ 0 → (P (Int64.toInt32 x5_14) g_15)) ∧ (¬ (lg_cmp x5_14 (1000000000 : Int64)) ≤ 0 → (P (-9 : Int32) g_15)))) ∧ (x2 = (2 : Int32) → (P x4_13 g_15)))) ∧ (x2 = 0 → (P x3_12 g_15))))) n_16 (0 : Int32) (0 : Int32) (1 : Int64) (0 : Int32) g_11))) n_17 (0 : Int32) g)) ∧ (r_10 = 0 → (P (-1 : Int32) g)))) x2 (0 : Int32) (2 : Int32))))) x1)
-- X1_measureOf (II)I, effect 0, room (1, 21)
def wM_measureOf_j72 (P : Int32 → Prop) (tc cl : Int32) (tr : Int64) (g : Sg) (B : Int32 → Int32 → Prop) (K81 : Int32 → Prop) (x1 : Int32) (x2 : Int32) (x3 : Int32) (x4 : Int32) (x6 : Int32) : Prop :=
  (B (0 : Int32) (x6 + 1))
def wM_measureOf_j68 (P : Int32 → Prop) (tc cl : Int32) (tr : Int64) (g : Sg) (B : Int32 → Int32 → Prop) (K81 : Int32 → Prop) (x1 : Int32) (x2 : Int32) (x3 : Int32) (x4 : Int32) (x6 : Int32) : Prop :=
  (B (1 : Int32) (x6 + 1))
def wM_measureOf_b29 (P : Int32 → Prop) (tc cl : Int32) (tr : Int64) (g : Sg) (x1 : Int32) (x2 : Int32) (x3 : Int32) (x4 : Int32) (K81 : Int32 → Prop) (B : Int32 → Int32 → Prop) (x5 : Int32) (x6 : Int32) : Prop :=
  ((tc ≤ x6 → (K81 x5)) ∧ (¬ tc ≤ x6 → ((x5 = 0 → (wM_measureOf_j72 P tc cl tr g B K81 x1 x2 x3 x4 x6)) ∧ (¬ x5 = 0 → (vp_in (((8 : Int32) * x4) + x6) 64 ∧ (((g 1 ((((8 : Int32) * x4) + x6)).toNatClampNeg) = 0 → (wM_measureOf_j68 P tc cl tr g B K81 x1 x2 x3 x4 x6)) ∧ (¬ (g 1 ((((8 : Int32) * x4) + x6)).toNatClampNeg) = 0 → (wM_has (fun r_1 => ((¬ r_1 = 0 → (wM_measureOf_j72 P tc cl tr g B K81 x1 x2 x3 x4 x6)) ∧ (r_1 = 0 → (wM_measureOf_j68 P tc cl tr g B K81 x1 x2 x3 x4 x6)))) x2 x6))))))))
def wM_measureOf_j114 (P : Int32 → Prop) (tc cl : Int32) (tr : Int64) (g : Sg) (B : Int32 → Int32 → Prop) (x1 : Int32) (x2 : Int32) (x4 : Int32) (y0 : Int32) (y1 : Int32) (y2 : Int32) : Prop :=
  (∀ x3_2 : Int32, x3_2 = (y0 + (y1 + y2)) → (B x3_2 (x4 + 1)))
def wM_measureOf_j113 (P : Int32 → Prop) (tc cl : Int32) (tr : Int64) (g : Sg) (B : Int32 → Int32 → Prop) (x1 : Int32) (x2 : Int32) (x4 : Int32) (y0 : Int32) (y1 : Int32) : Prop :=
  (wM_measureOf_j114 P tc cl tr g B x1 x2 x4 y0 y1 (0 : Int32))
def wM_measureOf_j98 (P : Int32 → Prop) (tc cl : Int32) (tr : Int64) (g : Sg) (B : Int32 → Int32 → Prop) (x1 : Int32) (x2 : Int32) (x4 : Int32) (x5 : Int32) (y0 : Int32) (y1 : Int32) (y2 : Int32) : Prop :=
  ((¬ x1 = (2 : Int32) → (wM_measureOf_j113 P tc cl tr g B x1 x2 x4 y0 (y1 + y2))) ∧ (x1 = (2 : Int32) → ((x5 = 0 → (wM_measureOf_j113 P tc cl tr g B x1 x2 x4 y0 (y1 + y2))) ∧ (¬ x5 = 0 → (wM_measureOf_j114 P tc cl tr g B x1 x2 x4 y0 (y1 + y2) (1 : Int32))))))
def wM_measureOf_b5 (P : Int32 → Prop) (tc cl : Int32) (tr : Int64) (g : Sg) (x1 : Int32) (x2 : Int32) (B : Int32 → Int32 → Prop) (x3 : Int32) (x4 : Int32) : Prop :=
  ((tc ≤ x4 → (P x3)) ∧ (¬ tc ≤ x4 → (wM_has (fun r_3 => ((r_3 = 0 → (B x3 (x4 + 1))) ∧ (¬ r_3 = 0 → (∃ n_5, Lp2 (wM_measureOf_b29 P tc cl tr g x1 x2 x3 x4 (fun (x5_4 : Int32) => ((x1 ≤ 0 → (wM_measureOf_j98 P tc cl tr g B x1 x2 x4 x5_4 x3 (1 : Int32) (0 : Int32))) ∧ (¬ x1 ≤ 0 → (vp_in x4 8 ∧ (wM_measureOf_j98 P tc cl tr g B x1 x2 x4 x5_4 x3 (1 : Int32) (g 2 (x4).toNatClampNeg))))))) n_5 (1 : Int32) (0 : Int32))))) x2 x4)))
def wM_measureOf (P : Int32 → Prop) (tc cl : Int32) (tr : Int64) (g : Sg) (x1 : Int32) (x2 : Int32) : Prop :=
  (∃ n_6, Lp2 (wM_measureOf_b5 P tc cl tr g x1 x2) n_6 (0 : Int32) (0 : Int32))
-- X1_measure (II)I, effect 2, room (2, 47)
def wM_measure_j47 (P : Int32 → Int32 → Int32 → Int64 → Sg → Prop) (x1 : Int32) (x2 : Int32) (y1 : Int64) (y2 : Int64) (tc : Int32) (cl : Int32) (tr : Int64) (g : Sg) : Prop :=
  (∀ tr_1 : Int64, tr_1 = (y1 + y2) → (wM_measureOf (fun r_2 => (P r_2 tc cl tr_1 g)) tc cl tr_1 g x1 x2))
def wM_measure (P : Int32 → Int32 → Int32 → Int64 → Sg → Prop) (tc cl : Int32) (tr : Int64) (g : Sg) (x1 : Int32) (x2 : Int32) : Prop :=
  (wM_in (fun r_3 => ((r_3 = 0 → (P (-1000000 : Int32) tc cl tr g)) ∧ (¬ r_3 = 0 → (wM_isHeap (fun r_4 => ((¬ r_4 = 0 → ((¬ x1 = 0 → ((¬ x1 = (1 : Int32) → (wM_measure_j47 P x1 x2 tr (111 : Int64) tc cl tr g)) ∧ (x1 = (1 : Int32) → (wM_measure_j47 P x1 x2 tr (11 : Int64) tc cl tr g)))) ∧ (x1 = 0 → (wM_measure_j47 P x1 x2 tr (1 : Int64) tc cl tr g)))) ∧ (r_4 = 0 → (P (-1000000 : Int32) tc cl tr g)))) tc cl tr g x2)))) x1 (0 : Int32) (2 : Int32))
-- X1_sumOf (III)I, effect 0, room (4, 97)
def wM_sumOf_b16 (P : Int32 → Prop) (tc cl : Int32) (tr : Int64) (g : Sg) (x1 : Int32) (x2 : Int32) (x3 : Int32) (B : Int32 → Int32 → Prop) (x4 : Int32) (x5 : Int32) : Prop :=
  ((x5 = x1 → (P x4)) ∧ (¬ x5 = x1 → (wM_measureOf (fun r_1 => (∀ x4_2 : Int32, x4_2 = (x4 + r_1) → (wM_turned (fun r_3 => (B x4_2 r_3)) tc cl tr g x5 x2))) tc cl tr g x3 x5)))
def wM_sumOf (P : Int32 → Prop) (tc cl : Int32) (tr : Int64) (g : Sg) (x1 : Int32) (x2 : Int32) (x3 : Int32) : Prop :=
  (wM_measureOf (fun r_4 => (wM_turned (fun r_5 => (∃ n_6, Lp2 (wM_sumOf_b16 P tc cl tr g x1 x2 x3) n_6 r_4 r_5)) tc cl tr g x1 x2)) tc cl tr g x3 x1)
-- X1_mean (IIII)I, effect 0, room (5, 122)
def wM_mean (P : Int32 → Prop) (tc cl : Int32) (tr : Int64) (g : Sg) (x1 : Int32) (x2 : Int32) (x3 : Int32) (x4 : Int32) : Prop :=
  (wM_isHeap (fun r_1 => ((r_1 = 0 → (P (-1000000 : Int32))) ∧ (¬ r_1 = 0 → (wM_isKind (fun r_2 => ((r_2 = 0 → (P (-1000000 : Int32))) ∧ (¬ r_2 = 0 → (wM_in (fun r_3 => ((r_3 = 0 → (P (-1000000 : Int32))) ∧ (¬ r_3 = 0 → (wM_in (fun r_4 => ((¬ r_4 = 0 → (wM_sumOf (fun r_5 => (wM_orbitOf (fun r_6 => (wM_common (fun r_7 => (∀ x7_8 : Int32, x7_8 = (Int64.toInt32 r_7) → ((¬ x4 = 0 → (¬ x7_8 = 0 ∧ (P (r_6 / x7_8)))) ∧ (x4 = 0 → (¬ x7_8 = 0 ∧ (P (r_5 / x7_8))))))) (Int32.toInt64 r_5) (Int32.toInt64 r_6))) tc cl tr g x1 x2)) tc cl tr g x1 x2 x3)) ∧ (r_4 = 0 → (P (-1000000 : Int32))))) x4 (0 : Int32) (1 : Int32))))) x3 (0 : Int32) (2 : Int32))))) x2)))) tc cl tr g x1)
-- X1_even (II)I, effect 0, room (5, 122)
def wM_even_j92 (P : Int32 → Prop) (tc cl : Int32) (tr : Int64) (g : Sg) (B : Int32 → Int32 → Prop) (K101 : Int32 → Prop) (x1 : Int32) (x2 : Int32) (x3 : Int32) (x4 : Int32) (x6 : Int32) : Prop :=
  (B (0 : Int32) (x6 + 1))
def wM_even_j88 (P : Int32 → Prop) (tc cl : Int32) (tr : Int64) (g : Sg) (B : Int32 → Int32 → Prop) (K101 : Int32 → Prop) (x1 : Int32) (x2 : Int32) (x3 : Int32) (x4 : Int32) (x6 : Int32) : Prop :=
  (B (1 : Int32) (x6 + 1))
def wM_even_b40 (P : Int32 → Prop) (tc cl : Int32) (tr : Int64) (g : Sg) (x1 : Int32) (x2 : Int32) (x3 : Int32) (x4 : Int32) (K101 : Int32 → Prop) (B : Int32 → Int32 → Prop) (x5 : Int32) (x6 : Int32) : Prop :=
  ((((1 : Int32) <<< (tc &&& 31)) ≤ x6 → (K101 x5)) ∧ (¬ ((1 : Int32) <<< (tc &&& 31)) ≤ x6 → ((x5 = 0 → (wM_even_j92 P tc cl tr g B K101 x1 x2 x3 x4 x6)) ∧ (¬ x5 = 0 → (wM_isHeap (fun r_1 => ((r_1 = 0 → (wM_even_j88 P tc cl tr g B K101 x1 x2 x3 x4 x6)) ∧ (¬ r_1 = 0 → (wM_sumOf (fun r_2 => (wM_orbitOf (fun r_3 => ((¬ (r_2 * x4) = (x3 * r_3) → (wM_even_j92 P tc cl tr g B K101 x1 x2 x3 x4 x6)) ∧ ((r_2 * x4) = (x3 * r_3) → (wM_even_j88 P tc cl tr g B K101 x1 x2 x3 x4 x6)))) tc cl tr g x6 x1)) tc cl tr g x6 x1 x2)))) tc cl tr g x6)))))
def wM_even (P : Int32 → Prop) (tc cl : Int32) (tr : Int64) (g : Sg) (x1 : Int32) (x2 : Int32) : Prop :=
  (wM_isKind (fun r_4 => ((r_4 = 0 → (P (-1 : Int32))) ∧ (¬ r_4 = 0 → (wM_in (fun r_5 => ((¬ r_5 = 0 → (wM_sumOf (fun r_6 => (wM_orbitOf (fun r_7 => (∃ n_9, Lp2 (wM_even_b40 P tc cl tr g x1 x2 r_6 r_7 (fun (x5_8 : Int32) => ((x5_8 = 0 → (P (0 : Int32))) ∧ (¬ x5_8 = 0 → (P (1 : Int32)))))) n_9 (1 : Int32) (1 : Int32))) tc cl tr g (0 : Int32) x1)) tc cl tr g (0 : Int32) x1 x2)) ∧ (r_5 = 0 → (P (-1 : Int32))))) x2 (0 : Int32) (2 : Int32))))) x1)
-- X1_take (II)Z, effect 1, room (0, 0)
def wM_take_b5 (P : Int32 → Sg → Prop) (tc cl : Int32) (tr : Int64) (x1 : Int32) (x2 : Int32) (K38 : Int32 → Sg → Prop) (B : Int32 → Int32 → Sg → Prop) (x3 : Int32) (x4 : Int32) (g : Sg) : Prop :=
  ((tc ≤ x4 → (K38 x3 g)) ∧ (¬ tc ≤ x4 → (¬ (x1 + (1 : Int32)) = 0 ∧ (vp_in x4 8 ∧ ∀ g_1 : Sg, g_1 = up2 g 7 (x4).toNatClampNeg (x3 - x3 / (x1 + (1 : Int32)) * (x1 + (1 : Int32))) → (¬ (x1 + (1 : Int32)) = 0 ∧ (∀ x3_2 : Int32, x3_2 = (x3 / (x1 + (1 : Int32))) → (B x3_2 (x4 + 1) g_1)))))))
def wM_take_j122 (P : Int32 → Sg → Prop) (tc cl : Int32) (tr : Int64) (B : Int32 → Int32 → Sg → Prop) (K131 : Int32 → Sg → Prop) (x5 : Int32) (x6 : Int32) (g : Sg) : Prop :=
  (B (0 : Int32) (x6 + 1) g)
def wM_take_j118 (P : Int32 → Sg → Prop) (tc cl : Int32) (tr : Int64) (B : Int32 → Int32 → Sg → Prop) (K131 : Int32 → Sg → Prop) (x5 : Int32) (x6 : Int32) (g : Sg) : Prop :=
  (B (1 : Int32) (x6 + 1) g)
def wM_take_b71 (P : Int32 → Sg → Prop) (tc cl : Int32) (tr : Int64) (x5 : Int32) (K131 : Int32 → Sg → Prop) (B : Int32 → Int32 → Sg → Prop) (x4 : Int32) (x6 : Int32) (g : Sg) : Prop :=
  ((tc ≤ x6 → (K131 x4 g)) ∧ (¬ tc ≤ x6 → ((x4 = 0 → (wM_take_j122 P tc cl tr B K131 x5 x6 g)) ∧ (¬ x4 = 0 → (vp_in (((8 : Int32) * x5) + x6) 64 ∧ (((g 1 ((((8 : Int32) * x5) + x6)).toNatClampNeg) = 0 → (wM_take_j118 P tc cl tr B K131 x5 x6 g)) ∧ (¬ (g 1 ((((8 : Int32) * x5) + x6)).toNatClampNeg) = 0 → (vp_in x5 8 ∧ (vp_in x6 8 ∧ (((g 7 (x5).toNatClampNeg) < (g 7 (x6).toNatClampNeg) → (wM_take_j122 P tc cl tr B K131 x5 x6 g)) ∧ (¬ (g 7 (x5).toNatClampNeg) < (g 7 (x6).toNatClampNeg) → (wM_take_j118 P tc cl tr B K131 x5 x6 g))))))))))))
def wM_take_b56 (P : Int32 → Sg → Prop) (tc cl : Int32) (tr : Int64) (B : Int32 → Int32 → Sg → Prop) (x4 : Int32) (x5 : Int32) (g : Sg) : Prop :=
  ((tc ≤ x5 → (isB x4 ∧ P x4 g)) ∧ (¬ tc ≤ x5 → (∀ x6_3 : Int32, x6_3 = (x5 + (1 : Int32)) → (∃ n_6, Lp3 (wM_take_b71 P tc cl tr x5 (fun (x4_4 : Int32) (g_5 : Sg) => (B x4_4 (x5 + 1) g_5))) n_6 x4 x6_3 g))))
def wM_take_j51 (P : Int32 → Sg → Prop) (tc cl : Int32) (tr : Int64) (y0 : Int32) (g : Sg) : Prop :=
  (∃ n_7, Lp3 (wM_take_b56 P tc cl tr) n_7 y0 (0 : Int32) g)
def wM_take_j50 (P : Int32 → Sg → Prop) (tc cl : Int32) (tr : Int64) (g : Sg) : Prop :=
  (wM_take_j51 P tc cl tr (0 : Int32) g)
def wM_take (P : Int32 → Sg → Prop) (tc cl : Int32) (tr : Int64) (g : Sg) (x1 : Int32) (x2 : Int32) : Prop :=
  (∃ n_10, Lp3 (wM_take_b5 P tc cl tr x1 x2 (fun (x3_8 : Int32) (g_9 : Sg) => ((¬ x3_8 = 0 → (wM_take_j50 P tc cl tr g_9)) ∧ (x3_8 = 0 → ((x2 < 0 → (wM_take_j50 P tc cl tr g_9)) ∧ (¬ x2 < 0 → (wM_take_j51 P tc cl tr (1 : Int32) g_9))))))) n_10 x2 (0 : Int32) g)
-- X1_number (I)I, effect 0, room (0, 0)
def wM_number_b9 (P : Int32 → Prop) (tc cl : Int32) (tr : Int64) (g : Sg) (x1 : Int32) (B : Int32 → Int32 → Prop) (x2 : Int32) (x3 : Int32) : Prop :=
  ((x3 < 0 → (P x2)) ∧ (¬ x3 < 0 → (vp_in x3 8 ∧ (∀ x2_1 : Int32, x2_1 = (((x1 + (1 : Int32)) * x2) + (g 7 (x3).toNatClampNeg)) → (B x2_1 (x3 + (-1)))))))
def wM_number (P : Int32 → Prop) (tc cl : Int32) (tr : Int64) (g : Sg) (x1 : Int32) : Prop :=
  (∀ x3_2 : Int32, x3_2 = (tc - (1 : Int32)) → (∃ n_3, Lp2 (wM_number_b9 P tc cl tr g x1) n_3 (0 : Int32) x3_2))
-- X1_bends (II)V, effect 1, room (0, 0)
def wM_bends_j54 (P : Sg → Prop) (tc cl : Int32) (tr : Int64) (B : Int32 → Int32 → Int32 → Sg → Prop) (K102 : Int32 → Int32 → Sg → Prop) (x2 : Int32) (x4 : Int32) (x5 : Int32) (y0 : Int32) (g : Sg) : Prop :=
  (vp_in (((8 : Int32) * x2) + x5) 64 ∧ (((g 1 ((((8 : Int32) * x2) + x5)).toNatClampNeg) = 0 → (B y0 x4 (x5 + 1) g)) ∧ (¬ (g 1 ((((8 : Int32) * x2) + x5)).toNatClampNeg) = 0 → (vp_in x5 8 ∧ (((g 7 (x5).toNatClampNeg) ≤ x4 → (B y0 x4 (x5 + 1) g)) ∧ (¬ (g 7 (x5).toNatClampNeg) ≤ x4 → (vp_in x5 8 ∧ (∀ x4_1 : Int32, x4_1 = (g 7 (x5).toNatClampNeg) → (B y0 x4_1 (x5 + 1) g)))))))))
def wM_bends_j53 (P : Sg → Prop) (tc cl : Int32) (tr : Int64) (B : Int32 → Int32 → Int32 → Sg → Prop) (K102 : Int32 → Int32 → Sg → Prop) (x2 : Int32) (x3 : Int32) (x4 : Int32) (x5 : Int32) (g : Sg) : Prop :=
  (wM_bends_j54 P tc cl tr B K102 x2 x4 x5 x3 g)
def wM_bends_b8 (P : Sg → Prop) (tc cl : Int32) (tr : Int64) (x2 : Int32) (K102 : Int32 → Int32 → Sg → Prop) (B : Int32 → Int32 → Int32 → Sg → Prop) (x3 : Int32) (x4 : Int32) (x5 : Int32) (g : Sg) : Prop :=
  ((tc ≤ x5 → (K102 x3 x4 g)) ∧ (¬ tc ≤ x5 → (vp_in (((8 : Int32) * x5) + x2) 64 ∧ (((g 1 ((((8 : Int32) * x5) + x2)).toNatClampNeg) = 0 → (wM_bends_j53 P tc cl tr B K102 x2 x3 x4 x5 g)) ∧ (¬ (g 1 ((((8 : Int32) * x5) + x2)).toNatClampNeg) = 0 → (vp_in x5 8 ∧ ((x3 ≤ (g 7 (x5).toNatClampNeg) → (wM_bends_j53 P tc cl tr B K102 x2 x3 x4 x5 g)) ∧ (¬ x3 ≤ (g 7 (x5).toNatClampNeg) → (vp_in x5 8 ∧ (wM_bends_j54 P tc cl tr B K102 x2 x4 x5 (g 7 (x5).toNatClampNeg) g))))))))))
def wM_bends (P : Sg → Prop) (tc cl : Int32) (tr : Int64) (g : Sg) (x1 : Int32) (x2 : Int32) : Prop :=
  (∃ n_6, Lp4 (wM_bends_b8 P tc cl tr x2 (fun (x3_2 : Int32) (x4_3 : Int32) (g_4 : Sg) => (vp_in x2 8 ∧ (vp_in x2 8 ∧ ∀ g_5 : Sg, g_5 = up2 g_4 7 (x2).toNatClampNeg ((x3_2 + x4_3) - (g_4 7 (x2).toNatClampNeg)) → (P g_5))))) n_6 x1 (0 : Int32) (0 : Int32) g)
-- X1_rounds (II)V, effect 1, room (1, 25)
def wM_rounds_b42 (P : Sg → Prop) (tc cl : Int32) (tr : Int64) (x1 : Int32) (B : Int32 → Sg → Prop) (x3 : Int32) (g : Sg) : Prop :=
  ((x3 < 0 → (P g)) ∧ (¬ x3 < 0 → (wM_bends (fun g_1 => (B (x3 + (-1)) g_1)) tc cl tr g x1 x3)))
def wM_rounds_b7 (P : Sg → Prop) (tc cl : Int32) (tr : Int64) (x1 : Int32) (K32 : Sg → Prop) (B : Int32 → Sg → Prop) (x3 : Int32) (g : Sg) : Prop :=
  ((cl ≤ x3 → (K32 g)) ∧ (¬ cl ≤ x3 → (vp_in x3 16 ∧ (wM_bends (fun g_2 => (B (x3 + 1) g_2)) tc cl tr g x1 (g 3 (x3).toNatClampNeg)))))
def wM_rounds (P : Sg → Prop) (tc cl : Int32) (tr : Int64) (g : Sg) (x1 : Int32) (x2 : Int32) : Prop :=
  ((¬ x2 = (1 : Int32) → (∀ x3_3 : Int32, x3_3 = (tc - (1 : Int32)) → (∃ n_4, Lp2 (wM_rounds_b42 P tc cl tr x1) n_4 x3_3 g))) ∧ (x2 = (1 : Int32) → (∃ n_6, Lp2 (wM_rounds_b7 P tc cl tr x1 (fun (g_5 : Sg) => (P g_5))) n_6 (0 : Int32) g)))
-- X1_isHeight (I)Z, effect 0, room (1, 22)
def wM_isHeight (P : Int32 → Prop) (x0 : Int32) : Prop :=
  (wM_in (fun r_1 => (isB r_1 ∧ P r_1)) x0 (1 : Int32) (3 : Int32))
-- X1_fillings (I)I, effect 1, room (2, 42)
def wM_fillings_b13 (P : Int32 → Sg → Prop) (tc cl : Int32) (tr : Int64) (x1 : Int32) (K33 : Int32 → Sg → Prop) (B : Int32 → Int32 → Sg → Prop) (x2 : Int32) (x3 : Int32) (g : Sg) : Prop :=
  ((tc ≤ x3 → (K33 x2 g)) ∧ (¬ tc ≤ x3 → (∀ x2_1 : Int32, x2_1 = (x2 * (x1 + (1 : Int32))) → (B x2_1 (x3 + 1) g))))
def wM_fillings_j60 (P : Int32 → Sg → Prop) (tc cl : Int32) (tr : Int64) (B : Int32 → Int32 → Sg → Prop) (x1 : Int32) (x2 : Int32) (x4 : Int32) (y0 : Int32) (y1 : Int32) (g : Sg) : Prop :=
  (∀ x3_2 : Int32, x3_2 = (y0 + y1) → (B x3_2 (x4 + 1) g))
def wM_fillings_b38 (P : Int32 → Sg → Prop) (tc cl : Int32) (tr : Int64) (x1 : Int32) (x2 : Int32) (B : Int32 → Int32 → Sg → Prop) (x3 : Int32) (x4 : Int32) (g : Sg) : Prop :=
  ((x2 ≤ x4 → (P x3 g)) ∧ (¬ x2 ≤ x4 → (wM_take (fun r_3 g_4 => ((r_3 = 0 → (wM_fillings_j60 P tc cl tr B x1 x2 x4 x3 (0 : Int32) g_4)) ∧ (¬ r_3 = 0 → (wM_fillings_j60 P tc cl tr B x1 x2 x4 x3 (1 : Int32) g_4)))) tc cl tr g x1 x4)))
def wM_fillings (P : Int32 → Sg → Prop) (tc cl : Int32) (tr : Int64) (g : Sg) (x1 : Int32) : Prop :=
  (wM_isHeight (fun r_5 => ((¬ r_5 = 0 → (∃ n_9, Lp3 (wM_fillings_b13 P tc cl tr x1 (fun (x2_6 : Int32) (g_7 : Sg) => (∃ n_8, Lp3 (wM_fillings_b38 P tc cl tr x1 x2_6) n_8 (0 : Int32) (0 : Int32) g_7))) n_9 (1 : Int32) (0 : Int32) g)) ∧ (r_5 = 0 → (P (-1 : Int32) g)))) x1)
-- X1_bend (III)I, effect 1, room (2, 43)
def wM_bend (P : Int32 → Sg → Prop) (tc cl : Int32) (tr : Int64) (g : Sg) (x1 : Int32) (x2 : Int32) (x3 : Int32) : Prop :=
  (wM_isHeight (fun r_1 => ((r_1 = 0 → (P (-1 : Int32) g)) ∧ (¬ r_1 = 0 → (wM_isThing (fun r_2 => ((r_2 = 0 → (P (-1 : Int32) g)) ∧ (¬ r_2 = 0 → (wM_take (fun r_3 g_4 => ((¬ r_3 = 0 → (wM_bends (fun g_5 => (wM_number (fun r_6 => (P r_6 g_5)) tc cl tr g_5 x1)) tc cl tr g_4 x1 x3)) ∧ (r_3 = 0 → (P (-1 : Int32) g_4)))) tc cl tr g x1 x2)))) tc cl tr g x3)))) x1)
-- X1_round (III)I, effect 1, room (2, 48)
def wM_round (P : Int32 → Sg → Prop) (tc cl : Int32) (tr : Int64) (g : Sg) (x1 : Int32) (x2 : Int32) (x3 : Int32) : Prop :=
  (wM_isHeight (fun r_1 => ((r_1 = 0 → (P (-1 : Int32) g)) ∧ (¬ r_1 = 0 → (wM_isKind (fun r_2 => ((r_2 = 0 → (P (-1 : Int32) g)) ∧ (¬ r_2 = 0 → (wM_take (fun r_3 g_4 => ((¬ r_3 = 0 → (wM_rounds (fun g_5 => (wM_number (fun r_6 => (P r_6 g_5)) tc cl tr g_5 x1)) tc cl tr g_4 x1 x3)) ∧ (r_3 = 0 → (P (-1 : Int32) g_4)))) tc cl tr g x1 x2)))) x3)))) x1)
-- X1_period (III)I, effect 1, room (2, 48)
def wM_period_b31 (P : Int32 → Sg → Prop) (tc cl : Int32) (tr : Int64) (x1 : Int32) (x2 : Int32) (x3 : Int32) (K64 : Int32 → Int32 → Sg → Prop) (B : Int32 → Int32 → Sg → Prop) (x4 : Int32) (x5 : Int32) (g : Sg) : Prop :=
  ((x5 = x2 → (K64 x4 x5 g)) ∧ (¬ x5 = x2 → (((1000 : Int32) ≤ x4 → (K64 x4 x5 g)) ∧ (¬ (1000 : Int32) ≤ x4 → (wM_rounds (fun g_1 => (wM_number (fun r_2 => (B (x4 + 1) r_2 g_1)) tc cl tr g_1 x1)) tc cl tr g x1 x3)))))
def wM_period (P : Int32 → Sg → Prop) (tc cl : Int32) (tr : Int64) (g : Sg) (x1 : Int32) (x2 : Int32) (x3 : Int32) : Prop :=
  (wM_isHeight (fun r_3 => ((r_3 = 0 → (P (-1 : Int32) g)) ∧ (¬ r_3 = 0 → (wM_isKind (fun r_4 => ((r_4 = 0 → (P (-1 : Int32) g)) ∧ (¬ r_4 = 0 → (wM_take (fun r_5 g_6 => ((¬ r_5 = 0 → (∃ n_10, Lp3 (wM_period_b31 P tc cl tr x1 x2 x3 (fun (x4_7 : Int32) (x5_8 : Int32) (g_9 : Sg) => ((¬ x5_8 = x2 → (P (-9 : Int32) g_9)) ∧ (x5_8 = x2 → (P x4_7 g_9))))) n_10 (0 : Int32) (-1 : Int32) g_6)) ∧ (r_5 = 0 → (P (-1 : Int32) g_6)))) tc cl tr g x1 x2)))) x3)))) x1)
-- X1_countOf (I)I, effect 0, room (2, 46)
def wM_countOf_j45 (P : Int32 → Prop) (tc cl : Int32) (tr : Int64) (g : Sg) (B : Int32 → Int32 → Prop) (K54 : Int32 → Prop) (x1 : Int32) (x2 : Int32) (x3 : Int32) (x5 : Int32) (y0 : Int32) (y1 : Int32) : Prop :=
  (∀ x4_1 : Int32, x4_1 = (y0 + y1) → (B x4_1 (x5 + 1)))
def wM_countOf_b20 (P : Int32 → Prop) (tc cl : Int32) (tr : Int64) (g : Sg) (x1 : Int32) (x2 : Int32) (x3 : Int32) (K54 : Int32 → Prop) (B : Int32 → Int32 → Prop) (x4 : Int32) (x5 : Int32) : Prop :=
  ((tc ≤ x5 → (K54 x4)) ∧ (¬ tc ≤ x5 → (wM_has (fun r_2 => ((r_2 = 0 → (wM_countOf_j45 P tc cl tr g B K54 x1 x2 x3 x5 x4 (0 : Int32))) ∧ (¬ r_2 = 0 → (wM_countOf_j45 P tc cl tr g B K54 x1 x2 x3 x5 x4 (1 : Int32))))) x3 x5)))
def wM_countOf_j74 (P : Int32 → Prop) (tc cl : Int32) (tr : Int64) (g : Sg) (B : Int32 → Int32 → Prop) (x1 : Int32) (x3 : Int32) (y0 : Int32) (y1 : Int32) : Prop :=
  (∀ x2_3 : Int32, x2_3 = (y0 + y1) → (B x2_3 (x3 + 1)))
def wM_countOf_j73 (P : Int32 → Prop) (tc cl : Int32) (tr : Int64) (g : Sg) (B : Int32 → Int32 → Prop) (x1 : Int32) (x3 : Int32) (y0 : Int32) : Prop :=
  (wM_countOf_j74 P tc cl tr g B x1 x3 y0 (0 : Int32))
def wM_countOf_b4 (P : Int32 → Prop) (tc cl : Int32) (tr : Int64) (g : Sg) (x1 : Int32) (B : Int32 → Int32 → Prop) (x2 : Int32) (x3 : Int32) : Prop :=
  ((((1 : Int32) <<< (tc &&& 31)) ≤ x3 → (P x2)) ∧ (¬ ((1 : Int32) <<< (tc &&& 31)) ≤ x3 → (∃ n_6, Lp2 (wM_countOf_b20 P tc cl tr g x1 x2 x3 (fun (x4_4 : Int32) => ((¬ x4_4 = x1 → (wM_countOf_j73 P tc cl tr g B x1 x3 x2)) ∧ (x4_4 = x1 → (wM_isHeap (fun r_5 => ((r_5 = 0 → (wM_countOf_j73 P tc cl tr g B x1 x3 x2)) ∧ (¬ r_5 = 0 → (wM_countOf_j74 P tc cl tr g B x1 x3 x2 (1 : Int32))))) tc cl tr g x3))))) n_6 (0 : Int32) (0 : Int32))))
def wM_countOf (P : Int32 → Prop) (tc cl : Int32) (tr : Int64) (g : Sg) (x1 : Int32) : Prop :=
  (∃ n_7, Lp2 (wM_countOf_b4 P tc cl tr g x1) n_7 (0 : Int32) (0 : Int32))
-- X1_counts (I)I, effect 0, room (3, 71)
def wM_counts (P : Int32 → Prop) (tc cl : Int32) (tr : Int64) (g : Sg) (x1 : Int32) : Prop :=
  (wM_in (fun r_1 => ((r_1 = 0 → (P (-1 : Int32))) ∧ (¬ r_1 = 0 → (wM_countOf (fun r_2 => (P r_2)) tc cl tr g x1)))) x1 (0 : Int32) tc)
-- X1_at (I)I, effect 1, room (3, 71)
def wM_at_b20 (P : Int32 → Sg → Prop) (tc cl : Int32) (tr : Int64) (x1 : Int32) (K39 : Sg → Prop) (B : Int32 → Sg → Prop) (x2 : Int32) (g : Sg) : Prop :=
  (((6 : Int32) ≤ x2 → (K39 g)) ∧ (¬ (6 : Int32) ≤ x2 → (vp_in x2 6 ∧ ∀ g_1 : Sg, g_1 = up2 g 8 (x2).toNatClampNeg (0 : Int32) → (B (x2 + 1) g_1))))
def wM_at_b41 (P : Int32 → Sg → Prop) (tc cl : Int32) (tr : Int64) (x1 : Int32) (K71 : Sg → Prop) (B : Int32 → Sg → Prop) (x2 : Int32) (g : Sg) : Prop :=
  ((tc < x2 → (K71 g)) ∧ (¬ tc < x2 → (¬ x1 = 0 ∧ (vp_in (x2 - x2 / x1 * x1) 6 ∧ (wM_countOf (fun r_2 => (vp_in (x2 - x2 / x1 * x1) 6 ∧ ∀ g_3 : Sg, g_3 = up2 g 8 ((x2 - x2 / x1 * x1)).toNatClampNeg ((g 8 ((x2 - x2 / x1 * x1)).toNatClampNeg) + r_2) → (B (x2 + 1) g_3))) tc cl tr g x2)))))
def wM_at (P : Int32 → Sg → Prop) (tc cl : Int32) (tr : Int64) (g : Sg) (x1 : Int32) : Prop :=
  (wM_in (fun r_4 => ((r_4 = 0 → (P (-1000001 : Int32) g)) ∧ (¬ r_4 = 0 → ((¬ x1 = (5 : Int32) → (∃ n_8, Lp2 (wM_at_b20 P tc cl tr x1 (fun (g_5 : Sg) => (∃ n_7, Lp2 (wM_at_b41 P tc cl tr x1 (fun (g_6 : Sg) => ((x1 = 1 → (vp_in (0 : Int32) 6 ∧ (P (g_6 8 ((0 : Int32)).toNatClampNeg) g_6))) ∧ (x1 = 2 → (vp_in (0 : Int32) 6 ∧ (vp_in (1 : Int32) 6 ∧ (P ((g_6 8 ((0 : Int32)).toNatClampNeg) - (g_6 8 ((1 : Int32)).toNatClampNeg)) g_6)))) ∧ (x1 = 3 → (vp_in (1 : Int32) 6 ∧ (vp_in (2 : Int32) 6 ∧ ((¬ (g_6 8 ((1 : Int32)).toNatClampNeg) = (g_6 8 ((2 : Int32)).toNatClampNeg) → (P (-1000000 : Int32) g_6)) ∧ ((g_6 8 ((1 : Int32)).toNatClampNeg) = (g_6 8 ((2 : Int32)).toNatClampNeg) → (vp_in (0 : Int32) 6 ∧ (vp_in (2 : Int32) 6 ∧ (P ((g_6 8 ((0 : Int32)).toNatClampNeg) - (g_6 8 ((2 : Int32)).toNatClampNeg)) g_6)))))))) ∧ (x1 = 4 → (vp_in (1 : Int32) 6 ∧ (vp_in (3 : Int32) 6 ∧ ((¬ (g_6 8 ((1 : Int32)).toNatClampNeg) = (g_6 8 ((3 : Int32)).toNatClampNeg) → (P (-1000000 : Int32) g_6)) ∧ ((g_6 8 ((1 : Int32)).toNatClampNeg) = (g_6 8 ((3 : Int32)).toNatClampNeg) → (vp_in (0 : Int32) 6 ∧ (vp_in (2 : Int32) 6 ∧ (P ((g_6 8 ((0 : Int32)).toNatClampNeg) - (g_6 8 ((2 : Int32)).toNatClampNeg)) g_6)))))))) ∧ (¬ x1 = 1 → ¬ x1 = 2 → ¬ x1 = 3 → ¬ x1 = 4 → (vp_in (1 : Int32) 6 ∧ (vp_in (4 : Int32) 6 ∧ (vp_in (2 : Int32) 6 ∧ (vp_in (5 : Int32) 6 ∧ ((¬ ((((g_6 8 ((1 : Int32)).toNatClampNeg) - (g_6 8 ((4 : Int32)).toNatClampNeg)) + (g_6 8 ((2 : Int32)).toNatClampNeg)) - (g_6 8 ((5 : Int32)).toNatClampNeg)) = 0 → (P (-1000000 : Int32) g_6)) ∧ (((((g_6 8 ((1 : Int32)).toNatClampNeg) - (g_6 8 ((4 : Int32)).toNatClampNeg)) + (g_6 8 ((2 : Int32)).toNatClampNeg)) - (g_6 8 ((5 : Int32)).toNatClampNeg)) = 0 → (vp_in (0 : Int32) 6 ∧ (vp_in (3 : Int32) 6 ∧ (vp_in (2 : Int32) 6 ∧ (vp_in (5 : Int32) 6 ∧ (P ((((g_6 8 ((0 : Int32)).toNatClampNeg) - (g_6 8 ((3 : Int32)).toNatClampNeg)) - (g_6 8 ((2 : Int32)).toNatClampNeg)) + (g_6 8 ((5 : Int32)).toNatClampNeg)) g_6))))))))))))))) n_7 (0 : Int32) g_5))) n_8 (0 : Int32) g)) ∧ (x1 = (5 : Int32) → (P (-1000001 : Int32) g)))))) x1 (1 : Int32) (6 : Int32))
-- X1_stays (II)I, effect 0, room (5, 121)
def wM_stays_j63 (P : Int32 → Prop) (tc cl : Int32) (tr : Int64) (g : Sg) (B : Int32 → Int32 → Prop) (x1 : Int32) (x2 : Int32) (x4 : Int32) (y0 : Int32) (y1 : Int32) : Prop :=
  (∀ x3_1 : Int32, x3_1 = (y0 + y1) → (B x3_1 (x4 + 1)))
def wM_stays_j62 (P : Int32 → Prop) (tc cl : Int32) (tr : Int64) (g : Sg) (B : Int32 → Int32 → Prop) (x1 : Int32) (x2 : Int32) (x4 : Int32) (y0 : Int32) : Prop :=
  (wM_stays_j63 P tc cl tr g B x1 x2 x4 y0 (0 : Int32))
def wM_stays_b25 (P : Int32 → Prop) (tc cl : Int32) (tr : Int64) (g : Sg) (x1 : Int32) (x2 : Int32) (B : Int32 → Int32 → Prop) (x3 : Int32) (x4 : Int32) : Prop :=
  ((((1 : Int32) <<< (tc &&& 31)) ≤ x4 → (P x3)) ∧ (¬ ((1 : Int32) <<< (tc &&& 31)) ≤ x4 → (wM_isHeap (fun r_2 => ((r_2 = 0 → (wM_stays_j62 P tc cl tr g B x1 x2 x4 x3)) ∧ (¬ r_2 = 0 → (wM_orbitOf (fun r_3 => (¬ r_3 = 0 ∧ ((¬ (x2 - x2 / r_3 * r_3) = 0 → (wM_stays_j62 P tc cl tr g B x1 x2 x4 x3)) ∧ ((x2 - x2 / r_3 * r_3) = 0 → (wM_stays_j63 P tc cl tr g B x1 x2 x4 x3 (1 : Int32)))))) tc cl tr g x4 x1)))) tc cl tr g x4)))
def wM_stays (P : Int32 → Prop) (tc cl : Int32) (tr : Int64) (g : Sg) (x1 : Int32) (x2 : Int32) : Prop :=
  (wM_isKind (fun r_4 => ((r_4 = 0 → (P (-1 : Int32))) ∧ (¬ r_4 = 0 → (wM_in (fun r_5 => ((¬ r_5 = 0 → (∃ n_6, Lp2 (wM_stays_b25 P tc cl tr g x1 x2) n_6 (0 : Int32) (0 : Int32))) ∧ (r_5 = 0 → (P (-1 : Int32))))) x2 (0 : Int32) (1000 : Int32))))) x1)
-- X1_count (I)I, effect 0, room (0, 0)
def wM_count_j61 (P : Int32 → Prop) (tc cl : Int32) (tr : Int64) (g : Sg) (B : Int32 → Int32 → Prop) (x3 : Int32) (y0 : Int32) (y1 : Int32) : Prop :=
  (∀ x2_1 : Int32, x2_1 = (y0 + y1) → (B x2_1 (x3 + 1)))
def wM_count_b40 (P : Int32 → Prop) (tc cl : Int32) (tr : Int64) (g : Sg) (B : Int32 → Int32 → Prop) (x2 : Int32) (x3 : Int32) : Prop :=
  (((64 : Int32) ≤ x3 → (P x2)) ∧ (¬ (64 : Int32) ≤ x3 → (vp_in x3 64 ∧ (((g 1 (x3).toNatClampNeg) = 0 → (wM_count_j61 P tc cl tr g B x3 x2 (0 : Int32))) ∧ (¬ (g 1 (x3).toNatClampNeg) = 0 → (wM_count_j61 P tc cl tr g B x3 x2 (1 : Int32)))))))
def wM_count (P : Int32 → Prop) (tc cl : Int32) (tr : Int64) (g : Sg) (x1 : Int32) : Prop :=
  ((x1 = 0 → (P tc)) ∧ (x1 = 1 → (P cl)) ∧ (x1 = 2 → (∃ n_2, Lp2 (wM_count_b40 P tc cl tr g) n_2 (0 : Int32) (0 : Int32))) ∧ (¬ x1 = 0 → ¬ x1 = 1 → ¬ x1 = 2 → (P (-1 : Int32))))
-- X1_trace ()J, effect 0, room (0, 0)
def wM_trace (P : Int64 → Prop) (tc cl : Int32) (tr : Int64) (g : Sg) : Prop :=
  (P tr)
