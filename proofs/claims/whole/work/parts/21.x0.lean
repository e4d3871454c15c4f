abbrev rm_J6_bitCount_0f7a4 : Room := { frames := 0, cells := 0, slots := 0, locals := 0 }
def f_J6_bitCount_0f7a4 (h : hp) (p0 : Int32) : Option Int32 := (nm (p0 - (((p0).toUInt32 >>> (((1 : Int32)).toUInt32 &&& Int32.toUInt32 31)).toInt32 &&& (1431655765 : Int32))) fun v1 =>
 (nm ((v1 &&& (858993459 : Int32)) + (((v1).toUInt32 >>> (((2 : Int32)).toUInt32 &&& Int32.toUInt32 31)).toInt32 &&& (858993459 : Int32))) fun v2 =>
 (nm ((v2 + ((v2).toUInt32 >>> (((4 : Int32)).toUInt32 &&& Int32.toUInt32 31)).toInt32) &&& (252645135 : Int32)) fun v3 =>
 (nm (v3 + ((v3).toUInt32 >>> (((8 : Int32)).toUInt32 &&& Int32.toUInt32 31)).toInt32) fun v4 =>
 (nm (v4 + ((v4).toUInt32 >>> (((16 : Int32)).toUInt32 &&& Int32.toUInt32 31)).toInt32) fun v5 =>
 (some (v5 &&& (63 : Int32))))))))
set_option maxRecDepth 100000 in
set_option maxHeartbeats 4000000 in
theorem k_J6_bitCount_0f7a4 {ω : XO} (hω : ω.2.2.2.1 = 1) {L : List Nat} {q : Nat → Nat} {h : hp} {p0 : Int32} {r : Int32} (hf : f_J6_bitCount_0f7a4 h p0 = some r) : XM ω yJ6_bitCount_0f7a4 cJ6_bitCount_0f7a4 1 (some .int) rm_J6_bitCount_0f7a4 L q h [.int p0] (some (.int r)) h := by
  refine XM_intro [(0, .int p0)] "java/lang/Integer" (by decide) rfl rfl (Nat.le_of_ble_eq_true rfl) (fun κ X R => ?_)
  unfold f_J6_bitCount_0f7a4 at hf
  refine x_iload_n X dJ6_bitCount_0f7a4_0 0 rfl rfl ?_
  refine x_iload_n X dJ6_bitCount_0f7a4_1 0 rfl rfl ?_
  refine x_iconst X (v := 1) dJ6_bitCount_0f7a4_2 (by decide) ?_
  refine x_iushr X dJ6_bitCount_0f7a4_3 ?_
  refine x_ldcw X (v := 1431655765) (mT_2 137 rfl rfl) dJ6_bitCount_0f7a4_4 ?_
  refine x_iand X dJ6_bitCount_0f7a4_7 ?_
  refine x_isub X dJ6_bitCount_0f7a4_8 ?_
  obtain ⟨v1, ev1, hf⟩ := nm_some hf
  refine x_nmI ev1 ?_
  refine x_istore_n X [(0, .int v1)] dJ6_bitCount_0f7a4_9 rfl (Nat.le_of_ble_eq_true rfl) rfl ?_
  refine x_iload_n X dJ6_bitCount_0f7a4_10 0 rfl rfl ?_
  refine x_ldcw X (v := 858993459) (mT_2 138 rfl rfl) dJ6_bitCount_0f7a4_11 ?_
  refine x_iand X dJ6_bitCount_0f7a4_14 ?_
  refine x_iload_n X dJ6_bitCount_0f7a4_15 0 rfl rfl ?_
  refine x_iconst X (v := 2) dJ6_bitCount_0f7a4_16 (by decide) ?_
  refine x_iushr X dJ6_bitCount_0f7a4_17 ?_
  refine x_ldcw X (v := 858993459) (mT_2 138 rfl rfl) dJ6_bitCount_0f7a4_18 ?_
  refine x_iand X dJ6_bitCount_0f7a4_21 ?_
  refine x_iadd X dJ6_bitCount_0f7a4_22 ?_
  obtain ⟨v2, ev2, hf⟩ := nm_some hf
  refine x_nmI ev2 ?_
  refine x_istore_n X [(0, .int v2)] dJ6_bitCount_0f7a4_23 rfl (Nat.le_of_ble_eq_true rfl) rfl ?_
  refine x_iload_n X dJ6_bitCount_0f7a4_24 0 rfl rfl ?_
  refine x_iload_n X dJ6_bitCount_0f7a4_25 0 rfl rfl ?_
  refine x_iconst X (v := 4) dJ6_bitCount_0f7a4_26 (by decide) ?_
  refine x_iushr X dJ6_bitCount_0f7a4_27 ?_
  refine x_iadd X dJ6_bitCount_0f7a4_28 ?_
  refine x_ldcw X (v := 252645135) (mT_2 139 rfl rfl) dJ6_bitCount_0f7a4_29 ?_
  refine x_iand X dJ6_bitCount_0f7a4_32 ?_
  obtain ⟨v3, ev3, hf⟩ := nm_some hf
  refine x_nmI ev3 ?_
  refine x_istore_n X [(0, .int v3)] dJ6_bitCount_0f7a4_33 rfl (Nat.le_of_ble_eq_true rfl) rfl ?_
  refine x_iload_n X dJ6_bitCount_0f7a4_34 0 rfl rfl ?_
  refine x_iload_n X dJ6_bitCount_0f7a4_35 0 rfl rfl ?_
  refine x_bipush X (v := 8) dJ6_bitCount_0f7a4_36 (by decide) ?_
  refine x_iushr X dJ6_bitCount_0f7a4_38 ?_
  refine x_iadd X dJ6_bitCount_0f7a4_39 ?_
  obtain ⟨v4, ev4, hf⟩ := nm_some hf
  refine x_nmI ev4 ?_
  refine x_istore_n X [(0, .int v4)] dJ6_bitCount_0f7a4_40 rfl (Nat.le_of_ble_eq_true rfl) rfl ?_
  refine x_iload_n X dJ6_bitCount_0f7a4_41 0 rfl rfl ?_
  refine x_iload_n X dJ6_bitCount_0f7a4_42 0 rfl rfl ?_
  refine x_bipush X (v := 16) dJ6_bitCount_0f7a4_43 (by decide) ?_
  refine x_iushr X dJ6_bitCount_0f7a4_45 ?_
  refine x_iadd X dJ6_bitCount_0f7a4_46 ?_
  obtain ⟨v5, ev5, hf⟩ := nm_some hf
  refine x_nmI ev5 ?_
  refine x_istore_n X [(0, .int v5)] dJ6_bitCount_0f7a4_47 rfl (Nat.le_of_ble_eq_true rfl) rfl ?_
  refine x_iload_n X dJ6_bitCount_0f7a4_48 0 rfl rfl ?_
  refine x_bipush X (v := 63) dJ6_bitCount_0f7a4_49 (by decide) ?_
  refine x_iand X dJ6_bitCount_0f7a4_51 ?_
  exact x_retRI X R hf dJ6_bitCount_0f7a4_52
theorem mt_J6_bitCount_0f7a4 : MS yJ6_bitCount_0f7a4 cJ6_bitCount_0f7a4 1 (some .int) 1 := ⟨(mT_2 135 rfl rfl), (mT_1 18 rfl rfl), (mT_2 136 rfl rfl), by decide⟩
theorem c_X11_201 {ω : XO} {rm : Room} {nL : Nat} {κ : XK} {cc : ByteArray} (X : XC ω rm nL κ cc "SignalBlind") (hω : ω.2.2.2.1 = 1) {L : List Nat} {q : Nat → Nat} {h : hp} {cells slots pc : Nat} {lv : List (Nat × Value)} {rest : List Value} {p0 : Int32} {r : Int32} (hf : f_J6_bitCount_0f7a4 h p0 = some r) (hR : rm_J6_bitCount_0f7a4.frames + 1 ≤ rm.frames ∧ 8 + (1 + 11) + rm_J6_bitCount_0f7a4.locals ≤ rm.locals) (hcs : cells ≤ rm.cells ∧ slots ≤ rm.slots) (hroom : (rest.map fun v => v.category).sum ≤ 8) (hd : decode cc pc = .ok (.invokestatic 201, 3)) (kk : XG ω rm nL κ L q h cells slots (pc + 3) lv (.int r :: rest)) : XG ω rm nL κ L q h cells slots pc lv (.int p0 :: rest) := x_callS X [.int p0] rest (k_J6_bitCount_0f7a4 hω hf) mt_J6_bitCount_0f7a4 (mT_2 134 rfl rfl) hR ⟨rfl, rfl⟩ hcs rfl hroom hd kk

abbrev rm_J13_bitCount_95d88 : Room := { frames := 0, cells := 0, slots := 0, locals := 0 }
def f_J13_bitCount_95d88 (h : hp) (p0 : Int64) : Option Int32 := (nm (p0 - (((p0).toUInt64 >>> (((1 : Int32)).toInt64.toUInt64 &&& Int64.toUInt64 63)).toInt64 &&& (6148914691236517205 : Int64))) fun v1 =>
 (nm ((v1 &&& (3689348814741910323 : Int64)) + (((v1).toUInt64 >>> (((2 : Int32)).toInt64.toUInt64 &&& Int64.toUInt64 63)).toInt64 &&& (3689348814741910323 : Int64))) fun v2 =>
 (nm ((v2 + ((v2).toUInt64 >>> (((4 : Int32)).toInt64.toUInt64 &&& Int64.toUInt64 63)).toInt64) &&& (1085102592571150095 : Int64)) fun v3 =>
 (nm (v3 + ((v3).toUInt64 >>> (((8 : Int32)).toInt64.toUInt64 &&& Int64.toUInt64 63)).toInt64) fun v4 =>
 (nm (v4 + ((v4).toUInt64 >>> (((16 : Int32)).toInt64.toUInt64 &&& Int64.toUInt64 63)).toInt64) fun v5 =>
 (nm (v5 + ((v5).toUInt64 >>> (((32 : Int32)).toInt64.toUInt64 &&& Int64.toUInt64 63)).toInt64) fun v6 =>
 (some (((v6).toInt32) &&& (127 : Int32)))))))))
set_option maxRecDepth 100000 in
set_option maxHeartbeats 4000000 in
theorem k_J13_bitCount_95d88 {ω : XO} (hω : ω.2.2.2.1 = 1) {L : List Nat} {q : Nat → Nat} {h : hp} {p0 : Int64} {r : Int32} (hf : f_J13_bitCount_95d88 h p0 = some r) : XM ω yJ13_bitCount_95d88 cJ13_bitCount_95d88 2 (some .int) rm_J13_bitCount_95d88 L q h [.long p0] (some (.int r)) h := by
  refine XM_intro [(0, .long p0)] "java/lang/Long" (by decide) rfl rfl (Nat.le_of_ble_eq_true rfl) (fun κ X R => ?_)
  unfold f_J13_bitCount_95d88 at hf
  refine x_lload_n X dJ13_bitCount_95d88_0 0 rfl rfl ?_
  refine x_lload_n X dJ13_bitCount_95d88_1 0 rfl rfl ?_
  refine x_iconst X (v := 1) dJ13_bitCount_95d88_2 (by decide) ?_
  refine x_lushr X dJ13_bitCount_95d88_3 ?_
  refine x_ldc2 X (v := 6148914691236517205) (mT_2 209 rfl rfl) dJ13_bitCount_95d88_4 ?_
  refine x_land X dJ13_bitCount_95d88_7 ?_
  refine x_lsub X dJ13_bitCount_95d88_8 ?_
  obtain ⟨v1, ev1, hf⟩ := nm_some hf
  refine x_nmL ev1 ?_
  refine x_lstore_n X [(0, .long v1)] dJ13_bitCount_95d88_9 rfl (Nat.le_of_ble_eq_true rfl) rfl ?_
  refine x_lload_n X dJ13_bitCount_95d88_10 0 rfl rfl ?_
  refine x_ldc2 X (v := 3689348814741910323) (mT_2 210 rfl rfl) dJ13_bitCount_95d88_11 ?_
  refine x_land X dJ13_bitCount_95d88_14 ?_
  refine x_lload_n X dJ13_bitCount_95d88_15 0 rfl rfl ?_
  refine x_iconst X (v := 2) dJ13_bitCount_95d88_16 (by decide) ?_
  refine x_lushr X dJ13_bitCount_95d88_17 ?_
  refine x_ldc2 X (v := 3689348814741910323) (mT_2 210 rfl rfl) dJ13_bitCount_95d88_18 ?_
  refine x_land X dJ13_bitCount_95d88_21 ?_
  refine x_ladd X dJ13_bitCount_95d88_22 ?_
  obtain ⟨v2, ev2, hf⟩ := nm_some hf
  refine x_nmL ev2 ?_
  refine x_lstore_n X [(0, .long v2)] dJ13_bitCount_95d88_23 rfl (Nat.le_of_ble_eq_true rfl) rfl ?_
  refine x_lload_n X dJ13_bitCount_95d88_24 0 rfl rfl ?_
  refine x_lload_n X dJ13_bitCount_95d88_25 0 rfl rfl ?_
  refine x_iconst X (v := 4) dJ13_bitCount_95d88_26 (by decide) ?_
  refine x_lushr X dJ13_bitCount_95d88_27 ?_
  refine x_ladd X dJ13_bitCount_95d88_28 ?_
  refine x_ldc2 X (v := 1085102592571150095) (mT_2 211 rfl rfl) dJ13_bitCount_95d88_29 ?_
  refine x_land X dJ13_bitCount_95d88_32 ?_
  obtain ⟨v3, ev3, hf⟩ := nm_some hf
  refine x_nmL ev3 ?_
  refine x_lstore_n X [(0, .long v3)] dJ13_bitCount_95d88_33 rfl (Nat.le_of_ble_eq_true rfl) rfl ?_
  refine x_lload_n X dJ13_bitCount_95d88_34 0 rfl rfl ?_
  refine x_lload_n X dJ13_bitCount_95d88_35 0 rfl rfl ?_
  refine x_bipush X (v := 8) dJ13_bitCount_95d88_36 (by decide) ?_
  refine x_lushr X dJ13_bitCount_95d88_38 ?_
  refine x_ladd X dJ13_bitCount_95d88_39 ?_
  obtain ⟨v4, ev4, hf⟩ := nm_some hf
  refine x_nmL ev4 ?_
  refine x_lstore_n X [(0, .long v4)] dJ13_bitCount_95d88_40 rfl (Nat.le_of_ble_eq_true rfl) rfl ?_
  refine x_lload_n X dJ13_bitCount_95d88_41 0 rfl rfl ?_
  refine x_lload_n X dJ13_bitCount_95d88_42 0 rfl rfl ?_
  refine x_bipush X (v := 16) dJ13_bitCount_95d88_43 (by decide) ?_
  refine x_lushr X dJ13_bitCount_95d88_45 ?_
  refine x_ladd X dJ13_bitCount_95d88_46 ?_
  obtain ⟨v5, ev5, hf⟩ := nm_some hf
  refine x_nmL ev5 ?_
  refine x_lstore_n X [(0, .long v5)] dJ13_bitCount_95d88_47 rfl (Nat.le_of_ble_eq_true rfl) rfl ?_
  refine x_lload_n X dJ13_bitCount_95d88_48 0 rfl rfl ?_
  refine x_lload_n X dJ13_bitCount_95d88_49 0 rfl rfl ?_
  refine x_bipush X (v := 32) dJ13_bitCount_95d88_50 (by decide) ?_
  refine x_lushr X dJ13_bitCount_95d88_52 ?_
  refine x_ladd X dJ13_bitCount_95d88_53 ?_
  obtain ⟨v6, ev6, hf⟩ := nm_some hf
  refine x_nmL ev6 ?_
  refine x_lstore_n X [(0, .long v6)] dJ13_bitCount_95d88_54 rfl (Nat.le_of_ble_eq_true rfl) rfl ?_
  refine x_lload_n X dJ13_bitCount_95d88_55 0 rfl rfl ?_
  refine x_l2i X dJ13_bitCount_95d88_56 ?_
  refine x_bipush X (v := 127) dJ13_bitCount_95d88_57 (by decide) ?_
  refine x_iand X dJ13_bitCount_95d88_59 ?_
  exact x_retRI X R hf dJ13_bitCount_95d88_60
theorem mt_J13_bitCount_95d88 : MS yJ13_bitCount_95d88 cJ13_bitCount_95d88 2 (some .int) 1 := ⟨(mT_2 207 rfl rfl), (mT_1 19 rfl rfl), (mT_2 208 rfl rfl), by decide⟩
theorem c_X11_285 {ω : XO} {rm : Room} {nL : Nat} {κ : XK} {cc : ByteArray} (X : XC ω rm nL κ cc "SignalBlind") (hω : ω.2.2.2.1 = 1) {L : List Nat} {q : Nat → Nat} {h : hp} {cells slots pc : Nat} {lv : List (Nat × Value)} {rest : List Value} {p0 : Int64} {r : Int32} (hf : f_J13_bitCount_95d88 h p0 = some r) (hR : rm_J13_bitCount_95d88.frames + 1 ≤ rm.frames ∧ 8 + (2 + 11) + rm_J13_bitCount_95d88.locals ≤ rm.locals) (hcs : cells ≤ rm.cells ∧ slots ≤ rm.slots) (hroom : (rest.map fun v => v.category).sum ≤ 8) (hd : decode cc pc = .ok (.invokestatic 285, 3)) (kk : XG ω rm nL κ L q h cells slots (pc + 3) lv (.int r :: rest)) : XG ω rm nL κ L q h cells slots pc lv (.long p0 :: rest) := x_callS X [.long p0] rest (k_J13_bitCount_95d88 hω hf) mt_J13_bitCount_95d88 (mT_2 206 rfl rfl) hR ⟨rfl, rfl⟩ hcs rfl hroom hd kk

abbrev rm_J3_checkIndex_8e157 : Room := { frames := 0, cells := 0, slots := 0, locals := 0 }
def f_J3_checkIndex_8e157_9 (h : hp) (a2 : Int32) (a3 : Int32) : Option Int32 := none
def f_J3_checkIndex_8e157 (h : hp) (p0 : Int32) (p1 : Int32) : Option Int32 := (if p0 < 0 then
 (f_J3_checkIndex_8e157_9 h p0 p1)
 else
 (if p0 < p1 then
 (some p0)
 else
 (f_J3_checkIndex_8e157_9 h p0 p1)))
set_option maxRecDepth 100000 in
set_option maxHeartbeats 4000000 in
theorem k_J3_checkIndex_8e157_9 {ω : XO} (hω : ω.2.2.2.1 = 1) {κ : XK} (X : XC ω rm_J3_checkIndex_8e157 3 κ cJ3_checkIndex_8e157 "jdk/internal/util/Preconditions") {L : List Nat} {q : Nat → Nat} {h : hp} {r : Int32} (R : XRet ω rm_J3_checkIndex_8e157 κ (some .int) L q h (some (.int r))) : ∀ (a2 : Int32) (a3 : Int32), f_J3_checkIndex_8e157_9 h a2 a3 = some r → XG ω rm_J3_checkIndex_8e157 3 κ L q h 0 0 9 [(0, .int a2), (1, .int a3)] [] := by
  intro a2 a3 hf
  unfold f_J3_checkIndex_8e157_9 at hf
  cases hf
set_option maxRecDepth 100000 in
set_option maxHeartbeats 4000000 in
theorem k_J3_checkIndex_8e157 {ω : XO} (hω : ω.2.2.2.1 = 1) {L : List Nat} {q : Nat → Nat} {h : hp} {p0 : Int32} {p1 : Int32} {p2 : Option Nat} {r : Int32} (hf : f_J3_checkIndex_8e157 h p0 p1 = some r) : XM ω yJ3_checkIndex_8e157 cJ3_checkIndex_8e157 3 (some .int) rm_J3_checkIndex_8e157 L q h [.int p0, .int p1, va_rf p2] (some (.int r)) h := by
  refine XM_intro [(0, .int p0), (1, .int p1), (2, va_rf p2)] "jdk/internal/util/Preconditions" (by decide) rfl rfl (by cases p2 <;> exact Nat.le_of_ble_eq_true rfl) (fun κ X R => ?_)
  unfold f_J3_checkIndex_8e157 at hf
  refine x_iload_n X dJ3_checkIndex_8e157_0 0 rfl rfl ?_
  refine x_if_lt X 9 dJ3_checkIndex_8e157_1 (by decide) (fun c1 => ?_) (fun c1 => ?_)
  · replace hf := (if_pos c1).symm.trans hf
    refine x_lv [0, 1] rfl ?_
    exact k_J3_checkIndex_8e157_9 hω X R _ _ hf
  · replace hf := (if_neg c1).symm.trans hf
    refine x_iload_n X dJ3_checkIndex_8e157_4 0 rfl rfl ?_
    refine x_iload_n X dJ3_checkIndex_8e157_5 1 rfl rfl ?_
    refine x_icmp_lt X 16 dJ3_checkIndex_8e157_6 (by decide) (fun c4 => ?_) (fun c4 => ?_)
    · replace hf := (if_pos c4).symm.trans hf
      refine x_iload_n X dJ3_checkIndex_8e157_16 0 rfl rfl ?_
      exact x_retRI X R hf dJ3_checkIndex_8e157_17
    · replace hf := (if_neg c4).symm.trans hf
      refine x_lv [0, 1] rfl ?_
      exact k_J3_checkIndex_8e157_9 hω X R _ _ hf
theorem mt_J3_checkIndex_8e157 : MS yJ3_checkIndex_8e157 cJ3_checkIndex_8e157 3 (some .int) 3 := ⟨(mT_3 106 rfl rfl), (mT_1 22 rfl rfl), (mT_3 107 rfl rfl), by decide⟩
theorem c_J0_1059 {ω : XO} {rm : Room} {nL : Nat} {κ : XK} {cc : ByteArray} (X : XC ω rm nL κ cc "java/lang/String") (hω : ω.2.2.2.1 = 1) {L : List Nat} {q : Nat → Nat} {h : hp} {cells slots pc : Nat} {lv : List (Nat × Value)} {rest : List Value} {p0 : Int32} {p1 : Int32} {p2 : Option Nat} {r : Int32} (hf : f_J3_checkIndex_8e157 h p0 p1 = some r) (hR : rm_J3_checkIndex_8e157.frames + 1 ≤ rm.frames ∧ 8 + (3 + 11) + rm_J3_checkIndex_8e157.locals ≤ rm.locals) (hcs : cells ≤ rm.cells ∧ slots ≤ rm.slots) (hroom : (rest.map fun v => v.category).sum ≤ 8) (hd : decode cc pc = .ok (.invokestatic 1059, 3)) (kk : XG ω rm nL κ L q h cells slots (pc + 3) lv (.int r :: rest)) : XG ω rm nL κ L q h cells slots pc lv (va_rf p2 :: .int p1 :: .int p0 :: rest) := x_callS X [.int p0, .int p1, va_rf p2] rest (k_J3_checkIndex_8e157 hω hf) mt_J3_checkIndex_8e157 (mT_3 105 rfl rfl) hR ⟨rfl, rfl⟩ hcs rfl hroom hd kk

abbrev rm_J0_checkIndex_df160 : Room := { frames := 1, cells := 0, slots := 0, locals := 22 }
def f_J0_checkIndex_df160 (h : hp) (p0 : Int32) (p1 : Int32) : Option Unit := (bnr (f_J3_checkIndex_8e157 h p0 p1) fun r2 =>
 (some ()))
set_option maxRecDepth 100000 in
set_option maxHeartbeats 4000000 in
theorem k_J0_checkIndex_df160 {ω : XO} (hω : ω.2.2.2.1 = 1) {L : List Nat} {q : Nat → Nat} {h : hp} {p0 : Int32} {p1 : Int32} {r : Unit} (hf : f_J0_checkIndex_df160 h p0 p1 = some r) : XM ω yJ0_checkIndex_df160 cJ0_checkIndex_df160 2 none rm_J0_checkIndex_df160 L q h [.int p0, .int p1] none h := by
  refine XM_intro [(0, .int p0), (1, .int p1)] "java/lang/String" (by decide) rfl rfl (Nat.le_of_ble_eq_true rfl) (fun κ X R => ?_)
  unfold f_J0_checkIndex_df160 at hf
  refine x_iload_n X dJ0_checkIndex_df160_0 0 rfl rfl ?_
  refine x_iload_n X dJ0_checkIndex_df160_1 1 rfl rfl ?_
  refine x_stat_J0_1053 X dJ0_checkIndex_df160_2 (fun q_1 => ?_)
  obtain ⟨r2, g3, hf⟩ := bnr_some hf
  refine c_J0_1059 X hω g3 (hR := ⟨Nat.le_of_ble_eq_true rfl, Nat.le_of_ble_eq_true rfl⟩) ⟨Nat.zero_le _, Nat.zero_le _⟩ (Nat.le_of_ble_eq_true rfl) dJ0_checkIndex_df160_5 ?_
  refine x_pop X dJ0_checkIndex_df160_8 rfl ?_
  exact x_retVR X R hf dJ0_checkIndex_df160_9
theorem mt_J0_checkIndex_df160 : MS yJ0_checkIndex_df160 cJ0_checkIndex_df160 2 none 2 := ⟨(mT_3 103 rfl rfl), (mT_1 7 rfl rfl), (mT_3 104 rfl rfl), by decide⟩
theorem c_J5_144 {ω : XO} {rm : Room} {nL : Nat} {κ : XK} {cc : ByteArray} (X : XC ω rm nL κ cc "java/lang/AbstractStringBuilder") (hω : ω.2.2.2.1 = 1) {L : List Nat} {q : Nat → Nat} {h : hp} {cells slots pc : Nat} {lv : List (Nat × Value)} {rest : List Value} {p0 : Int32} {p1 : Int32} {r : Unit} (hf : f_J0_checkIndex_df160 h p0 p1 = some r) (hR : rm_J0_checkIndex_df160.frames + 1 ≤ rm.frames ∧ 8 + (2 + 11) + rm_J0_checkIndex_df160.locals ≤ rm.locals) (hcs : cells ≤ rm.cells ∧ slots ≤ rm.slots) (hroom : (rest.map fun v => v.category).sum ≤ 8) (hd : decode cc pc = .ok (.invokestatic 144, 3)) (kk : XG ω rm nL κ L q h cells slots (pc + 3) lv (rest)) : XG ω rm nL κ L q h cells slots pc lv (.int p1 :: .int p0 :: rest) := x_callS X [.int p0, .int p1] rest (k_J0_checkIndex_df160 hω hf) mt_J0_checkIndex_df160 (mT_4 233 rfl rfl) hR ⟨rfl, rfl⟩ hcs rfl hroom hd kk
theorem c_J1_9 {ω : XO} {rm : Room} {nL : Nat} {κ : XK} {cc : ByteArray} (X : XC ω rm nL κ cc "java/lang/StringLatin1") (hω : ω.2.2.2.1 = 1) {L : List Nat} {q : Nat → Nat} {h : hp} {cells slots pc : Nat} {lv : List (Nat × Value)} {rest : List Value} {p0 : Int32} {p1 : Int32} {r : Unit} (hf : f_J0_checkIndex_df160 h p0 p1 = some r) (hR : rm_J0_checkIndex_df160.frames + 1 ≤ rm.frames ∧ 8 + (2 + 11) + rm_J0_checkIndex_df160.locals ≤ rm.locals) (hcs : cells ≤ rm.cells ∧ slots ≤ rm.slots) (hroom : (rest.map fun v => v.category).sum ≤ 8) (hd : decode cc pc = .ok (.invokestatic 9, 3)) (kk : XG ω rm nL κ L q h cells slots (pc + 3) lv (rest)) : XG ω rm nL κ L q h cells slots pc lv (.int p1 :: .int p0 :: rest) := x_callS X [.int p0, .int p1] rest (k_J0_checkIndex_df160 hω hf) mt_J0_checkIndex_df160 (mT_3 102 rfl rfl) hR ⟨rfl, rfl⟩ hcs rfl hroom hd kk

abbrev rm_J5_length_8abf5 : Room := { frames := 0, cells := 0, slots := 0, locals := 0 }
def f_J5_length_8abf5 (h : hp) (o : Nat) : Option Int32 := (ckO 1 h o 1
 (some (hI h o 3)))
set_option maxRecDepth 100000 in
set_option maxHeartbeats 4000000 in
theorem k_J5_length_8abf5 {ω : XO} (hω : ω.2.2.2.1 = 1) {L : List Nat} {q : Nat → Nat} {h : hp} {o : Nat} {r : Int32} (hf : f_J5_length_8abf5 h o = some r) : XM ω yJ5_length_8abf5 cJ5_length_8abf5 1 (some .int) rm_J5_length_8abf5 L q h [.ref (q o)] (some (.int r)) h := by
  refine XM_intro [(0, .ref (q o))] "java/lang/AbstractStringBuilder" (by decide) rfl rfl (Nat.le_of_ble_eq_true rfl) (fun κ X R => ?_)
  unfold f_J5_length_8abf5 at hf
  refine x_aload_n X dJ5_length_8abf5_0 0 rfl rfl ?_
  obtain ⟨b1, hf⟩ := ckO_some hf
  refine x_geti X (i := o) fl_J5_79_0 (sd_of hω b1.1) b1.2 rfl dJ5_length_8abf5_1 ?_
  exact x_retRI X R hf dJ5_length_8abf5_4
theorem c_J4_343 {ω : XO} {rm : Room} {nL : Nat} {κ : XK} {cc : ByteArray} (X : XC ω rm nL κ cc "java/lang/StringBuilder") (hω : ω.2.2.2.1 = 1) {L : List Nat} {q : Nat → Nat} {h : hp} {cells slots pc : Nat} {lv : List (Nat × Value)} {rest : List Value} {o : Nat} {r : Int32} (hf : f_J5_length_8abf5 h o = some r) (hs : sd ω.2.2.2.1 o = true) (hk : kdOf h o = 0 + 1) (hR : rm_J5_length_8abf5.frames + 1 ≤ rm.frames ∧ 8 + (1 + 11) + rm_J5_length_8abf5.locals ≤ rm.locals) (hcs : cells ≤ rm.cells ∧ slots ≤ rm.slots) (hroom : (rest.map fun v => v.category).sum ≤ 8) (hd : decode cc pc = .ok (.invokespecial 343, 3)) (kk : XG ω rm nL κ L q h cells slots (pc + 3) lv (.int r :: rest)) : XG ω rm nL κ L q h cells slots pc lv (.ref (q o) :: rest) := x_callSU X [] rest (k_J5_length_8abf5 hω hf) (by intro w hw; simp only [List.mem_cons, List.not_mem_nil, or_false] at hw; rcases hw with rfl | rfl | rfl | rfl | rfl <;> first | exact (mT_4 222 rfl rfl) | exact (mT_7 103 rfl rfl) | exact (mT_1 170 rfl rfl) | exact (mT_4 223 rfl rfl) | exact (mT_1 5 rfl rfl)) (mT_4 224 rfl rfl) ⟨by decide, (by decide : (parseMethodDescriptor yJ5_length_8abf5.desc).map (fun d => d.parameters.length) = some 0)⟩ hR ⟨rfl, rfl⟩ hcs hs hk (by decide) rfl rfl hroom hd kk

abbrev rm_J4_length_8abf5 : Room := { frames := 1, cells := 0, slots := 0, locals := 20 }
def f_J4_length_8abf5 (h : hp) (o : Nat) : Option Int32 := (ckO 1 h o 1
 (bnr (f_J5_length_8abf5 h o) fun r2 =>
 (some r2)))
set_option maxRecDepth 100000 in
set_option maxHeartbeats 4000000 in
theorem k_J4_length_8abf5 {ω : XO} (hω : ω.2.2.2.1 = 1) {L : List Nat} {q : Nat → Nat} {h : hp} {o : Nat} {r : Int32} (hf : f_J4_length_8abf5 h o = some r) : XM ω yJ4_length_8abf5 cJ4_length_8abf5 1 (some .int) rm_J4_length_8abf5 L q h [.ref (q o)] (some (.int r)) h := by
  refine XM_intro [(0, .ref (q o))] "java/lang/StringBuilder" (by decide) rfl rfl (Nat.le_of_ble_eq_true rfl) (fun κ X R => ?_)
  unfold f_J4_length_8abf5 at hf
  refine x_aload_n X dJ4_length_8abf5_0 0 rfl rfl ?_
  obtain ⟨b1, hf⟩ := ckO_some hf
  obtain ⟨r2, g3, hf⟩ := bnr_some hf
  refine c_J4_343 X hω g3 (sd_of hω b1.1) b1.2 (hR := ⟨Nat.le_of_ble_eq_true rfl, Nat.le_of_ble_eq_true rfl⟩) ⟨Nat.zero_le _, Nat.zero_le _⟩ (Nat.le_of_ble_eq_true rfl) dJ4_length_8abf5_1 ?_
  exact x_retRI X R hf dJ4_length_8abf5_4
theorem mt_J4_length_8abf5 : MT yJ4_length_8abf5 cJ4_length_8abf5 1 (some .int) "java/lang/StringBuilder" 0 := ⟨(mT_4 219 rfl rfl), (mT_4 220 rfl rfl), (mT_1 6 rfl rfl), (mT_4 221 rfl rfl), by decide⟩
theorem c_X11_245 {ω : XO} {rm : Room} {nL : Nat} {κ : XK} {cc : ByteArray} (X : XC ω rm nL κ cc "SignalBlind") (hω : ω.2.2.2.1 = 1) {L : List Nat} {q : Nat → Nat} {h : hp} {cells slots pc : Nat} {lv : List (Nat × Value)} {rest : List Value} {o : Nat} {r : Int32} (hf : f_J4_length_8abf5 h o = some r) (hs : sd ω.2.2.2.1 o = true) (hk : kdOf h o = 0 + 1) (hR : rm_J4_length_8abf5.frames + 1 ≤ rm.frames ∧ 8 + (1 + 11) + rm_J4_length_8abf5.locals ≤ rm.locals) (hcs : cells ≤ rm.cells ∧ slots ≤ rm.slots) (hroom : (rest.map fun v => v.category).sum ≤ 8) (hd : decode cc pc = .ok (.invokevirtual 245, 3)) (kk : XG ω rm nL κ L q h cells slots (pc + 3) lv (.int r :: rest)) : XG ω rm nL κ L q h cells slots pc lv (.ref (q o) :: rest) := x_callV X [] rest (k_J4_length_8abf5 hω hf) mt_J4_length_8abf5 (mT_4 218 rfl rfl) hR ⟨rfl, rfl⟩ hcs hs hk (by decide) rfl rfl hroom hd kk

abbrev rm_J5_charAt_5068e : Room := { frames := 2, cells := 0, slots := 0, locals := 43 }
def f_J5_charAt_5068e (h : hp) (o : Nat) (p0 : Int32) : Option (hp × Int32) := (ckO 1 h o 1
 (nm (hI h o 1) fun v2 =>
 (ckO 1 h o 1
 (ckO 1 h o 1
 (ckA 1 h (o + 1) 1
 (nm (mnI (hI h o 3) ((Int32.ofNat (alen h (o + 1))) >>> (v2 &&& 31))) fun v6 =>
 (bnr (f_J0_checkIndex_df160 h p0 v6) fun r7 =>
 (if v2 = 0 then
 (ckA 1 h (o + 1) 1
 (chk p0 (alen h (o + 1))
 (ckH (((((aI h (o + 1) (p0).toNatClampNeg) &&& (255 : Int32))).toUInt32 % 65536).toInt32)
 (some (h, (((((aI h (o + 1) (p0).toNatClampNeg) &&& (255 : Int32))).toUInt32 % 65536).toInt32))))))
 else
 none))))))))
set_option maxRecDepth 100000 in
set_option maxHeartbeats 4000000 in
theorem k_J5_charAt_5068e {ω : XO} (hω : ω.2.2.2.1 = 1) {L : List Nat} {q : Nat → Nat} {h h' : hp} {o : Nat} {p0 : Int32} {r : Int32} (hf : f_J5_charAt_5068e h o p0 = some (h', r)) : XM ω yJ5_charAt_5068e cJ5_charAt_5068e 5 (some .char) rm_J5_charAt_5068e L q h [.ref (q o), .int p0] (some (.int r)) h' := by
  refine XM_intro [(0, .ref (q o)), (1, .int p0)] "java/lang/AbstractStringBuilder" (by decide) rfl rfl (Nat.le_of_ble_eq_true rfl) (fun κ X R => ?_)
  unfold f_J5_charAt_5068e at hf
  refine x_aload_n X dJ5_charAt_5068e_0 0 rfl rfl ?_
  obtain ⟨b1, hf⟩ := ckO_some hf
  refine x_geti X (i := o) fl_J5_22_0 (sd_of hω b1.1) b1.2 rfl dJ5_charAt_5068e_1 ?_
  obtain ⟨v2, ev2, hf⟩ := nm_some hf
  refine x_nmI ev2 ?_
  refine x_istore_n X [(2, .int v2), (0, .ref (q o)), (1, .int p0)] dJ5_charAt_5068e_4 rfl (Nat.le_of_ble_eq_true rfl) rfl ?_
  refine x_aload_n X dJ5_charAt_5068e_5 1 rfl rfl ?_
  obtain ⟨b3, hf⟩ := ckO_some hf
  refine x_getsj X (i := o) 1 fl_J5_15_0 (sd_of hω b3.1) b3.2 rfl (j := (o + 1)) rfl dJ5_charAt_5068e_6 ?_
  refine x_astore_n X [(3, .ref (q (o + 1))), (2, .int v2), (0, .ref (q o)), (1, .int p0)] dJ5_charAt_5068e_9 rfl (Nat.le_of_ble_eq_true rfl) rfl ?_
  refine x_aload_n X dJ5_charAt_5068e_10 2 rfl rfl ?_
  obtain ⟨b4, hf⟩ := ckO_some hf
  refine x_geti X (i := o) fl_J5_79_0 (sd_of hω b4.1) b4.2 rfl dJ5_charAt_5068e_11 ?_
  refine x_aload_n X dJ5_charAt_5068e_14 0 rfl rfl ?_
  obtain ⟨b5, hf⟩ := ckA_some hf
  refine x_alen X (i := (o + 1)) (n := (alen h (o + 1))) (e := 1) (by decide) (sd_of hω b5.1) b5.2 rfl dJ5_charAt_5068e_15 ?_
  refine x_iload_n X dJ5_charAt_5068e_16 1 rfl rfl ?_
  refine x_ishr X dJ5_charAt_5068e_17 ?_
  refine x_mmin_J5_138 X (Nat.le_of_ble_eq_true rfl) ⟨Nat.le_of_ble_eq_true rfl, Nat.le_of_ble_eq_true rfl⟩ ⟨Nat.zero_le _, Nat.zero_le _⟩ dJ5_charAt_5068e_18 ?_
  obtain ⟨v6, ev6, hf⟩ := nm_some hf
  refine x_nmI ev6 ?_
  refine x_istore X [(4, .int v6), (3, .ref (q (o + 1))), (2, .int v2), (0, .ref (q o)), (1, .int p0)] dJ5_charAt_5068e_21 (Nat.le_of_ble_eq_true rfl) rfl ?_
  refine x_iload_n X dJ5_charAt_5068e_23 4 rfl rfl ?_
  refine x_iload X dJ5_charAt_5068e_24 0 rfl ?_
  obtain ⟨r7, g8, hf⟩ := bnr_some hf
  refine c_J5_144 X hω g8 (hR := ⟨Nat.le_of_ble_eq_true rfl, Nat.le_of_ble_eq_true rfl⟩) ⟨Nat.zero_le _, Nat.zero_le _⟩ (Nat.le_of_ble_eq_true rfl) dJ5_charAt_5068e_26 ?_
  refine x_iload_n X dJ5_charAt_5068e_29 2 rfl rfl ?_
  refine x_if_ne X 42 dJ5_charAt_5068e_30 (by decide) (fun c9 => ?_) (fun c9 => ?_)
  · replace hf := (if_pos c9).symm.trans hf
    refine x_aload_n X dJ5_charAt_5068e_33 1 rfl rfl ?_
    refine x_iload_n X dJ5_charAt_5068e_34 4 rfl rfl ?_
    obtain ⟨b10, hf⟩ := ckA_some hf
    obtain ⟨z11, hf⟩ := chk_some hf
    refine x_bald X (i := (o + 1)) (n := (alen h (o + 1))) (sd_of hω b10.1) b10.2 z11 dJ5_charAt_5068e_35 ?_
    refine x_sipush X (v := 255) dJ5_charAt_5068e_36 (by decide) ?_
    refine x_iand X dJ5_charAt_5068e_39 ?_
    refine x_i2c X dJ5_charAt_5068e_40 ?_
    obtain ⟨z12, hf⟩ := ckH_some hf
    exact x_retSC X R z12 hf dJ5_charAt_5068e_41
  · replace hf := (if_neg c9).symm.trans hf
    refine x_aload_n X dJ5_charAt_5068e_42 1 rfl rfl ?_
    refine x_iload_n X dJ5_charAt_5068e_43 4 rfl rfl ?_
    cases hf
theorem c_J4_329 {ω : XO} {rm : Room} {nL : Nat} {κ : XK} {cc : ByteArray} (X : XC ω rm nL κ cc "java/lang/StringBuilder") (hω : ω.2.2.2.1 = 1) {L : List Nat} {q : Nat → Nat} {h h' : hp} {cells slots pc : Nat} {lv : List (Nat × Value)} {rest : List Value} {o : Nat} {p0 : Int32} {r : Int32} (hf : f_J5_charAt_5068e h o p0 = some (h', r)) (hs : sd ω.2.2.2.1 o = true) (hk : kdOf h o = 0 + 1) (hR : rm_J5_charAt_5068e.frames + 1 ≤ rm.frames ∧ 8 + (5 + 11) + rm_J5_charAt_5068e.locals ≤ rm.locals) (hcs : cells ≤ rm.cells ∧ slots ≤ rm.slots) (hroom : (rest.map fun v => v.category).sum ≤ 8) (hd : decode cc pc = .ok (.invokespecial 329, 3)) (kk : XG ω rm nL κ L q h' cells slots (pc + 3) lv (.int r :: rest)) : XG ω rm nL κ L q h cells slots pc lv (.int p0 :: .ref (q o) :: rest) := x_callSU X [.int p0] rest (k_J5_charAt_5068e hω hf) (by intro w hw; simp only [List.mem_cons, List.not_mem_nil, or_false] at hw; rcases hw with rfl | rfl | rfl | rfl | rfl <;> first | exact (mT_4 229 rfl rfl) | exact (mT_7 104 rfl rfl) | exact (mT_1 170 rfl rfl) | exact (mT_4 230 rfl rfl) | exact (mT_1 5 rfl rfl)) (mT_4 231 rfl rfl) ⟨by decide, (by decide : (parseMethodDescriptor yJ5_charAt_5068e.desc).map (fun d => d.parameters.length) = some 1)⟩ hR ⟨rfl, rfl⟩ hcs hs hk (by decide) rfl rfl hroom hd kk

abbrev rm_J4_charAt_5068e : Room := { frames := 3, cells := 0, slots := 0, locals := 67 }
def f_J4_charAt_5068e (h : hp) (o : Nat) (p0 : Int32) : Option (hp × Int32) := (ckO 1 h o 1
 (bnd (f_J5_charAt_5068e h o p0) fun h2 r3 =>
 (ckH r3
 (some (h2, r3)))))
set_option maxRecDepth 100000 in
set_option maxHeartbeats 4000000 in
theorem k_J4_charAt_5068e {ω : XO} (hω : ω.2.2.2.1 = 1) {L : List Nat} {q : Nat → Nat} {h h' : hp} {o : Nat} {p0 : Int32} {r : Int32} (hf : f_J4_charAt_5068e h o p0 = some (h', r)) : XM ω yJ4_charAt_5068e cJ4_charAt_5068e 2 (some .char) rm_J4_charAt_5068e L q h [.ref (q o), .int p0] (some (.int r)) h' := by
  refine XM_intro [(0, .ref (q o)), (1, .int p0)] "java/lang/StringBuilder" (by decide) rfl rfl (Nat.le_of_ble_eq_true rfl) (fun κ X R => ?_)
  unfold f_J4_charAt_5068e at hf
  refine x_aload_n X dJ4_charAt_5068e_0 0 rfl rfl ?_
  refine x_iload_n X dJ4_charAt_5068e_1 1 rfl rfl ?_
  obtain ⟨b1, hf⟩ := ckO_some hf
  obtain ⟨h2, r3, g4, hf⟩ := bnd_some hf
  refine c_J4_329 X hω g4 (sd_of hω b1.1) b1.2 (hR := ⟨Nat.le_of_ble_eq_true rfl, Nat.le_of_ble_eq_true rfl⟩) ⟨Nat.zero_le _, Nat.zero_le _⟩ (Nat.le_of_ble_eq_true rfl) dJ4_charAt_5068e_2 ?_
  obtain ⟨z5, hf⟩ := ckH_some hf
  exact x_retSC X R z5 hf dJ4_charAt_5068e_5
theorem mt_J4_charAt_5068e : MT yJ4_charAt_5068e cJ4_charAt_5068e 2 (some .char) "java/lang/StringBuilder" 1 := ⟨(mT_4 226 rfl rfl), (mT_4 227 rfl rfl), (mT_1 6 rfl rfl), (mT_4 228 rfl rfl), by decide⟩
theorem c_X11_248 {ω : XO} {rm : Room} {nL : Nat} {κ : XK} {cc : ByteArray} (X : XC ω rm nL κ cc "SignalBlind") (hω : ω.2.2.2.1 = 1) {L : List Nat} {q : Nat → Nat} {h h' : hp} {cells slots pc : Nat} {lv : List (Nat × Value)} {rest : List Value} {o : Nat} {p0 : Int32} {r : Int32} (hf : f_J4_charAt_5068e h o p0 = some (h', r)) (hs : sd ω.2.2.2.1 o = true) (hk : kdOf h o = 0 + 1) (hR : rm_J4_charAt_5068e.frames + 1 ≤ rm.frames ∧ 8 + (2 + 11) + rm_J4_charAt_5068e.locals ≤ rm.locals) (hcs : cells ≤ rm.cells ∧ slots ≤ rm.slots) (hroom : (rest.map fun v => v.category).sum ≤ 8) (hd : decode cc pc = .ok (.invokevirtual 248, 3)) (kk : XG ω rm nL κ L q h' cells slots (pc + 3) lv (.int r :: rest)) : XG ω rm nL κ L q h cells slots pc lv (.int p0 :: .ref (q o) :: rest) := x_callV X [.int p0] rest (k_J4_charAt_5068e hω hf) mt_J4_charAt_5068e (mT_4 225 rfl rfl) hR ⟨rfl, rfl⟩ hcs hs hk (by decide) rfl rfl hroom hd kk

abbrev rm_J5_isLatin1_aae02 : Room := { frames := 0, cells := 0, slots := 0, locals := 0 }
def f_J5_isLatin1_aae02_18 (h : hp) (a2 : Int32) : Option Int32 := (ckZ a2
 (some a2))
def f_J5_isLatin1_aae02_17 (h : hp) : Option Int32 := (f_J5_isLatin1_aae02_18 h (0 : Int32))
def f_J5_isLatin1_aae02 (h : hp) (o : Nat) : Option Int32 := (if (1 : Int32) = 0 then
 (f_J5_isLatin1_aae02_17 h)
 else
 (ckO 1 h o 1
 (if (hI h o 1) = 0 then
 (f_J5_isLatin1_aae02_18 h (1 : Int32))
 else
 (f_J5_isLatin1_aae02_17 h))))
set_option maxRecDepth 100000 in
set_option maxHeartbeats 4000000 in
theorem k_J5_isLatin1_aae02_18 {ω : XO} (hω : ω.2.2.2.1 = 1) {κ : XK} (X : XC ω rm_J5_isLatin1_aae02 1 κ cJ5_isLatin1_aae02 "java/lang/AbstractStringBuilder") {L : List Nat} {q : Nat → Nat} {h : hp} {r : Int32} (R : XRet ω rm_J5_isLatin1_aae02 κ (some .boolean) L q h (some (.int r))) : ∀ (a2 : Int32), f_J5_isLatin1_aae02_18 h a2 = some r → XG ω rm_J5_isLatin1_aae02 1 κ L q h 0 0 18 [] [.int a2] := by
  intro a2 hf
  unfold f_J5_isLatin1_aae02_18 at hf
  obtain ⟨z3, hf⟩ := ckZ_some hf
  exact x_retRZ X R z3 hf dJ5_isLatin1_aae02_18
set_option maxRecDepth 100000 in
set_option maxHeartbeats 4000000 in
theorem k_J5_isLatin1_aae02_17 {ω : XO} (hω : ω.2.2.2.1 = 1) {κ : XK} (X : XC ω rm_J5_isLatin1_aae02 1 κ cJ5_isLatin1_aae02 "java/lang/AbstractStringBuilder") {L : List Nat} {q : Nat → Nat} {h : hp} {r : Int32} (R : XRet ω rm_J5_isLatin1_aae02 κ (some .boolean) L q h (some (.int r))) : f_J5_isLatin1_aae02_17 h = some r → XG ω rm_J5_isLatin1_aae02 1 κ L q h 0 0 17 [] [] := by
  intro  hf
  unfold f_J5_isLatin1_aae02_17 at hf
  refine x_iconst X (v := 0) dJ5_isLatin1_aae02_17 (by decide) ?_
  refine x_lv [] rfl ?_
  exact k_J5_isLatin1_aae02_18 hω X R _ hf
set_option maxRecDepth 100000 in
set_option maxHeartbeats 4000000 in
theorem k_J5_isLatin1_aae02 {ω : XO} (hω : ω.2.2.2.1 = 1) {L : List Nat} {q : Nat → Nat} {h : hp} {o : Nat} {r : Int32} (hf : f_J5_isLatin1_aae02 h o = some r) : XM ω yJ5_isLatin1_aae02 cJ5_isLatin1_aae02 1 (some .boolean) rm_J5_isLatin1_aae02 L q h [.ref (q o)] (some (.int r)) h := by
  refine XM_intro [(0, .ref (q o))] "java/lang/AbstractStringBuilder" (by decide) rfl rfl (Nat.le_of_ble_eq_true rfl) (fun κ X R => ?_)
  unfold f_J5_isLatin1_aae02 at hf
  refine x_stat_J5_18 X dJ5_isLatin1_aae02_0 ?_
  refine x_if_eq X 17 dJ5_isLatin1_aae02_3 (by decide) (fun c1 => ?_) (fun c1 => ?_)
  · replace hf := (if_pos c1).symm.trans hf
    refine x_lv [] rfl ?_
    exact k_J5_isLatin1_aae02_17 hω X R  hf
  · replace hf := (if_neg c1).symm.trans hf
    refine x_aload_n X dJ5_isLatin1_aae02_6 0 rfl rfl ?_
    obtain ⟨b4, hf⟩ := ckO_some hf
    refine x_geti X (i := o) fl_J5_22_0 (sd_of hω b4.1) b4.2 rfl dJ5_isLatin1_aae02_7 ?_
    refine x_if_ne X 17 dJ5_isLatin1_aae02_10 (by decide) (fun c5 => ?_) (fun c5 => ?_)
    · replace hf := (if_pos c5).symm.trans hf
      refine x_iconst X (v := 1) dJ5_isLatin1_aae02_13 (by decide) ?_
      refine x_goto X 18 dJ5_isLatin1_aae02_14 (by decide) ?_
      refine x_lv [] rfl ?_
      exact k_J5_isLatin1_aae02_18 hω X R _ hf
    · replace hf := (if_neg c5).symm.trans hf
      refine x_lv [] rfl ?_
      exact k_J5_isLatin1_aae02_17 hω X R  hf
theorem c_J5_83 {ω : XO} {rm : Room} {nL : Nat} {κ : XK} {cc : ByteArray} (X : XC ω rm nL κ cc "java/lang/AbstractStringBuilder") (hω : ω.2.2.2.1 = 1) {L : List Nat} {q : Nat → Nat} {h : hp} {cells slots pc : Nat} {lv : List (Nat × Value)} {rest : List Value} {o : Nat} {r : Int32} (hf : f_J5_isLatin1_aae02 h o = some r) (hs : sd ω.2.2.2.1 o = true) (hk : kdOf h o = 0 + 1) (hR : rm_J5_isLatin1_aae02.frames + 1 ≤ rm.frames ∧ 8 + (1 + 11) + rm_J5_isLatin1_aae02.locals ≤ rm.locals) (hcs : cells ≤ rm.cells ∧ slots ≤ rm.slots) (hroom : (rest.map fun v => v.category).sum ≤ 8) (hd : decode cc pc = .ok (.invokevirtual 83, 3)) (kk : XG ω rm nL κ L q h cells slots (pc + 3) lv (.int r :: rest)) : XG ω rm nL κ L q h cells slots pc lv (.ref (q o) :: rest) := x_callU X [] rest (k_J5_isLatin1_aae02 hω hf) (by intro w hw; simp only [List.mem_cons, List.not_mem_nil, or_false] at hw; rcases hw with rfl | rfl | rfl | rfl | rfl <;> first | exact (mT_4 86 rfl rfl) | exact (mT_4 88 rfl rfl) | exact (mT_4 89 rfl rfl) | exact (mT_4 87 rfl rfl) | exact (mT_1 5 rfl rfl)) (mT_4 90 rfl rfl) rfl ⟨by decide, by decide, (by decide : (parseMethodDescriptor yJ5_isLatin1_aae02.desc).map (fun d => d.parameters.length) = some 0)⟩ hR ⟨rfl, rfl⟩ hcs hs hk (by decide) rfl rfl hroom hd kk

abbrev rm_J5_ensureCapacityInternal_d00df : Room := { frames := 0, cells := 0, slots := 0, locals := 0 }
def f_J5_ensureCapacityInternal_d00df_38 (h : hp) : Option (hp × Unit) := (some (h, ()))
def f_J5_ensureCapacityInternal_d00df (h : hp) (o : Nat) (p0 : Int32) : Option (hp × Unit) := (ckO 1 h o 1
 (ckA 1 h (o + 1) 1
 (ckO 1 h o 1
 (nm ((Int32.ofNat (alen h (o + 1))) >>> ((hI h o 1) &&& 31)) fun v4 =>
 (if 0 < (p0 - v4) then
 (ckO 1 h o 1
 none)
 else
 (f_J5_ensureCapacityInternal_d00df_38 h))))))
set_option maxRecDepth 100000 in
set_option maxHeartbeats 4000000 in
theorem k_J5_ensureCapacityInternal_d00df_38 {ω : XO} (hω : ω.2.2.2.1 = 1) {κ : XK} (X : XC ω rm_J5_ensureCapacityInternal_d00df 3 κ cJ5_ensureCapacityInternal_d00df "java/lang/AbstractStringBuilder") {L : List Nat} {q : Nat → Nat} {h' : hp} {r : Unit} (R : XRet ω rm_J5_ensureCapacityInternal_d00df κ none L q h' none) : ∀ (h : hp), f_J5_ensureCapacityInternal_d00df_38 h = some (h', r) → XG ω rm_J5_ensureCapacityInternal_d00df 3 κ L q h 0 0 38 [] [] := by
  intro h hf
  unfold f_J5_ensureCapacityInternal_d00df_38 at hf
  exact x_retV X R hf dJ5_ensureCapacityInternal_d00df_38
set_option maxRecDepth 100000 in
set_option maxHeartbeats 4000000 in
theorem k_J5_ensureCapacityInternal_d00df {ω : XO} (hω : ω.2.2.2.1 = 1) {L : List Nat} {q : Nat → Nat} {h h' : hp} {o : Nat} {p0 : Int32} {r : Unit} (hf : f_J5_ensureCapacityInternal_d00df h o p0 = some (h', r)) : XM ω yJ5_ensureCapacityInternal_d00df cJ5_ensureCapacityInternal_d00df 3 none rm_J5_ensureCapacityInternal_d00df L q h [.ref (q o), .int p0] none h' := by
  refine XM_intro [(0, .ref (q o)), (1, .int p0)] "java/lang/AbstractStringBuilder" (by decide) rfl rfl (Nat.le_of_ble_eq_true rfl) (fun κ X R => ?_)
  unfold f_J5_ensureCapacityInternal_d00df at hf
  refine x_aload_n X dJ5_ensureCapacityInternal_d00df_0 0 rfl rfl ?_
  obtain ⟨b1, hf⟩ := ckO_some hf
  refine x_getsj X (i := o) 1 fl_J5_15_0 (sd_of hω b1.1) b1.2 rfl (j := (o + 1)) rfl dJ5_ensureCapacityInternal_d00df_1 ?_
  obtain ⟨b2, hf⟩ := ckA_some hf
  refine x_alen X (i := (o + 1)) (n := (alen h (o + 1))) (e := 1) (by decide) (sd_of hω b2.1) b2.2 rfl dJ5_ensureCapacityInternal_d00df_4 ?_
  refine x_aload_n X dJ5_ensureCapacityInternal_d00df_5 0 rfl rfl ?_
  obtain ⟨b3, hf⟩ := ckO_some hf
  refine x_geti X (i := o) fl_J5_22_0 (sd_of hω b3.1) b3.2 rfl dJ5_ensureCapacityInternal_d00df_6 ?_
  refine x_ishr X dJ5_ensureCapacityInternal_d00df_9 ?_
  obtain ⟨v4, ev4, hf⟩ := nm_some hf
  refine x_nmI ev4 ?_
  refine x_istore_n X [(2, .int v4), (0, .ref (q o)), (1, .int p0)] dJ5_ensureCapacityInternal_d00df_10 rfl (Nat.le_of_ble_eq_true rfl) rfl ?_
  refine x_iload_n X dJ5_ensureCapacityInternal_d00df_11 2 rfl rfl ?_
  refine x_iload_n X dJ5_ensureCapacityInternal_d00df_12 0 rfl rfl ?_
  refine x_isub X dJ5_ensureCapacityInternal_d00df_13 ?_
  refine x_if_le X 38 dJ5_ensureCapacityInternal_d00df_14 (by decide) (fun c5 => ?_) (fun c5 => ?_)
  · replace hf := (if_pos c5).symm.trans hf
    refine x_aload_n X dJ5_ensureCapacityInternal_d00df_17 1 rfl rfl ?_
    refine x_aload_n X dJ5_ensureCapacityInternal_d00df_18 1 rfl rfl ?_
    obtain ⟨b6, hf⟩ := ckO_some hf
    refine x_getsj X (i := o) 1 fl_J5_15_0 (sd_of hω b6.1) b6.2 rfl (j := (o + 1)) rfl dJ5_ensureCapacityInternal_d00df_19 ?_
    refine x_aload_n X dJ5_ensureCapacityInternal_d00df_22 1 rfl rfl ?_
    refine x_iload_n X dJ5_ensureCapacityInternal_d00df_23 2 rfl rfl ?_
    cases hf
  · replace hf := (if_neg c5).symm.trans hf
    refine x_lv [] rfl ?_
    exact k_J5_ensureCapacityInternal_d00df_38 hω X R h hf
theorem c_J5_100 {ω : XO} {rm : Room} {nL : Nat} {κ : XK} {cc : ByteArray} (X : XC ω rm nL κ cc "java/lang/AbstractStringBuilder") (hω : ω.2.2.2.1 = 1) {L : List Nat} {q : Nat → Nat} {h h' : hp} {cells slots pc : Nat} {lv : List (Nat × Value)} {rest : List Value} {o : Nat} {p0 : Int32} {r : Unit} (hf : f_J5_ensureCapacityInternal_d00df h o p0 = some (h', r)) (hs : sd ω.2.2.2.1 o = true) (hk : kdOf h o = 0 + 1) (hR : rm_J5_ensureCapacityInternal_d00df.frames + 1 ≤ rm.frames ∧ 8 + (3 + 11) + rm_J5_ensureCapacityInternal_d00df.locals ≤ rm.locals) (hcs : cells ≤ rm.cells ∧ slots ≤ rm.slots) (hroom : (rest.map fun v => v.category).sum ≤ 8) (hd : decode cc pc = .ok (.invokevirtual 100, 3)) (kk : XG ω rm nL κ L q h' cells slots (pc + 3) lv (rest)) : XG ω rm nL κ L q h cells slots pc lv (.int p0 :: .ref (q o) :: rest) := x_callU X [.int p0] rest (k_J5_ensureCapacityInternal_d00df hω hf) (by intro w hw; simp only [List.mem_cons, List.not_mem_nil, or_false] at hw; rcases hw with rfl | rfl | rfl | rfl | rfl <;> first | exact (mT_4 57 rfl rfl) | exact (mT_7 98 rfl rfl) | exact List.mem_cons_self | exact (mT_4 59 rfl rfl) | exact (mT_1 5 rfl rfl)) (mT_4 60 rfl rfl) rfl ⟨by decide, by decide, (by decide : (parseMethodDescriptor yJ5_ensureCapacityInternal_d00df.desc).map (fun d => d.parameters.length) = some 1)⟩ hR ⟨rfl, rfl⟩ hcs hs hk (by decide) rfl rfl hroom hd kk

abbrev rm_J1_canEncode_fc78d : Room := { frames := 0, cells := 0, slots := 0, locals := 0 }
def f_J1_canEncode_fc78d_12 (h : hp) (a2 : Int32) : Option Int32 := (ckZ a2
 (some a2))
def f_J1_canEncode_fc78d (h : hp) (p0 : Int32) : Option Int32 := (if (255 : Int32) < p0 then
 (f_J1_canEncode_fc78d_12 h (0 : Int32))
 else
 (f_J1_canEncode_fc78d_12 h (1 : Int32)))
set_option maxRecDepth 100000 in
set_option maxHeartbeats 4000000 in
theorem k_J1_canEncode_fc78d_12 {ω : XO} (hω : ω.2.2.2.1 = 1) {κ : XK} (X : XC ω rm_J1_canEncode_fc78d 1 κ cJ1_canEncode_fc78d "java/lang/StringLatin1") {L : List Nat} {q : Nat → Nat} {h : hp} {r : Int32} (R : XRet ω rm_J1_canEncode_fc78d κ (some .boolean) L q h (some (.int r))) : ∀ (a2 : Int32), f_J1_canEncode_fc78d_12 h a2 = some r → XG ω rm_J1_canEncode_fc78d 1 κ L q h 0 0 12 [] [.int a2] := by
  intro a2 hf
  unfold f_J1_canEncode_fc78d_12 at hf
  obtain ⟨z3, hf⟩ := ckZ_some hf
  exact x_retRZ X R z3 hf dJ1_canEncode_fc78d_12
set_option maxRecDepth 100000 in
set_option maxHeartbeats 4000000 in
theorem k_J1_canEncode_fc78d {ω : XO} (hω : ω.2.2.2.1 = 1) {L : List Nat} {q : Nat → Nat} {h : hp} {p0 : Int32} {r : Int32} (hf : f_J1_canEncode_fc78d h p0 = some r) : XM ω yJ1_canEncode_fc78d cJ1_canEncode_fc78d 1 (some .boolean) rm_J1_canEncode_fc78d L q h [.int p0] (some (.int r)) h := by
  refine XM_intro [(0, .int p0)] "java/lang/StringLatin1" (by decide) rfl rfl (Nat.le_of_ble_eq_true rfl) (fun κ X R => ?_)
  unfold f_J1_canEncode_fc78d at hf
  refine x_iload_n X dJ1_canEncode_fc78d_0 0 rfl rfl ?_
  refine x_sipush X (v := 255) dJ1_canEncode_fc78d_1 (by decide) ?_
  refine x_icmp_gt X 11 dJ1_canEncode_fc78d_4 (by decide) (fun c1 => ?_) (fun c1 => ?_)
  · replace hf := (if_pos c1).symm.trans hf
    refine x_iconst X (v := 0) dJ1_canEncode_fc78d_11 (by decide) ?_
    refine x_lv [] rfl ?_
    exact k_J1_canEncode_fc78d_12 hω X R _ hf
  · replace hf := (if_neg c1).symm.trans hf
    refine x_iconst X (v := 1) dJ1_canEncode_fc78d_7 (by decide) ?_
    refine x_goto X 12 dJ1_canEncode_fc78d_8 (by decide) ?_
    refine x_lv [] rfl ?_
    exact k_J1_canEncode_fc78d_12 hω X R _ hf
theorem mt_J1_canEncode_fc78d : MS yJ1_canEncode_fc78d cJ1_canEncode_fc78d 1 (some .boolean) 1 := ⟨(mT_4 119 rfl rfl), (mT_1 20 rfl rfl), (mT_4 120 rfl rfl), by decide⟩
theorem c_J5_191 {ω : XO} {rm : Room} {nL : Nat} {κ : XK} {cc : ByteArray} (X : XC ω rm nL κ cc "java/lang/AbstractStringBuilder") (hω : ω.2.2.2.1 = 1) {L : List Nat} {q : Nat → Nat} {h : hp} {cells slots pc : Nat} {lv : List (Nat × Value)} {rest : List Value} {p0 : Int32} {r : Int32} (hf : f_J1_canEncode_fc78d h p0 = some r) (hR : rm_J1_canEncode_fc78d.frames + 1 ≤ rm.frames ∧ 8 + (1 + 11) + rm_J1_canEncode_fc78d.locals ≤ rm.locals) (hcs : cells ≤ rm.cells ∧ slots ≤ rm.slots) (hroom : (rest.map fun v => v.category).sum ≤ 8) (hd : decode cc pc = .ok (.invokestatic 191, 3)) (kk : XG ω rm nL κ L q h cells slots (pc + 3) lv (.int r :: rest)) : XG ω rm nL κ L q h cells slots pc lv (.int p0 :: rest) := x_callS X [.int p0] rest (k_J1_canEncode_fc78d hω hf) mt_J1_canEncode_fc78d (mT_4 118 rfl rfl) hR ⟨rfl, rfl⟩ hcs rfl hroom hd kk

abbrev rm_J5_setLength_d00df : Room := { frames := 1, cells := 0, slots := 0, locals := 22 }
def f_J5_setLength_d00df_76 (h : hp) (a19 : Nat) (a20 : Int32) : Option (hp × Unit) := (ckO 1 h a19 1
 (nm (sI h a19 3 a20) fun h22 =>
 (some (h22, ()))))
def f_J5_setLength_d00df (h : hp) (o : Nat) (p0 : Int32) : Option (hp × Unit) := (if p0 < 0 then
 none
 else
 (ckO 1 h o 1
 (bnd (f_J5_ensureCapacityInternal_d00df h o p0) fun h3 _ =>
 (ckO 1 h3 o 1
 (if (hI h3 o 3) < p0 then
 (ckO 1 h3 o 1
 (bnr (f_J5_isLatin1_aae02 h3 o) fun r8 =>
 (if r8 = 0 then
 (ckO 1 h3 o 1
 (ckO 1 h3 o 1
 none))
 else
 (ckO 1 h3 o 1
 (ckO 1 h3 o 1
 none)))))
 else
 (ckO 1 h3 o 1
 (if p0 < (hI h3 o 3) then
 (ckO 1 h3 o 1
 (nm (sI h3 o 2 (1 : Int32)) fun h18 =>
 (f_J5_setLength_d00df_76 h18 o p0)))
 else
 (f_J5_setLength_d00df_76 h3 o p0))))))))
set_option maxRecDepth 100000 in
set_option maxHeartbeats 4000000 in
theorem k_J5_setLength_d00df_76 {ω : XO} (hω : ω.2.2.2.1 = 1) {κ : XK} (X : XC ω rm_J5_setLength_d00df 2 κ cJ5_setLength_d00df "java/lang/AbstractStringBuilder") {L : List Nat} {q : Nat → Nat} {h' : hp} {r : Unit} (R : XRet ω rm_J5_setLength_d00df κ none L q h' none) : ∀ (h : hp) (a19 : Nat) (a20 : Int32), f_J5_setLength_d00df_76 h a19 a20 = some (h', r) → XG ω rm_J5_setLength_d00df 2 κ L q h 0 0 76 [(0, .ref (q a19)), (1, .int a20)] [] := by
  intro h a19 a20 hf
  unfold f_J5_setLength_d00df_76 at hf
  refine x_aload_n X dJ5_setLength_d00df_76 0 rfl rfl ?_
  refine x_iload_n X dJ5_setLength_d00df_77 1 rfl rfl ?_
  obtain ⟨b21, hf⟩ := ckO_some hf
  refine x_puti X (i := a19) fl_J5_79_0 fw_0 (sd_of hω b21.1) b21.2 rfl rfl rfl rfl dJ5_setLength_d00df_78 ?_
  obtain ⟨h22, eh22, hf⟩ := nm_some hf
  refine x_nmh eh22 ?_
  exact x_retV X R hf dJ5_setLength_d00df_81
set_option maxRecDepth 100000 in
set_option maxHeartbeats 4000000 in
theorem k_J5_setLength_d00df {ω : XO} (hω : ω.2.2.2.1 = 1) {L : List Nat} {q : Nat → Nat} {h h' : hp} {o : Nat} {p0 : Int32} {r : Unit} (hf : f_J5_setLength_d00df h o p0 = some (h', r)) : XM ω yJ5_setLength_d00df cJ5_setLength_d00df 2 none rm_J5_setLength_d00df L q h [.ref (q o), .int p0] none h' := by
  refine XM_intro [(0, .ref (q o)), (1, .int p0)] "java/lang/AbstractStringBuilder" (by decide) rfl rfl (Nat.le_of_ble_eq_true rfl) (fun κ X R => ?_)
  unfold f_J5_setLength_d00df at hf
  refine x_iload_n X dJ5_setLength_d00df_0 1 rfl rfl ?_
  refine x_if_ge X 13 dJ5_setLength_d00df_1 (by decide) (fun c1 => ?_) (fun c1 => ?_)
  · replace hf := (if_pos c1).symm.trans hf
    cases hf
  · replace hf := (if_neg c1).symm.trans hf
    refine x_aload_n X dJ5_setLength_d00df_13 0 rfl rfl ?_
    refine x_iload_n X dJ5_setLength_d00df_14 1 rfl rfl ?_
    obtain ⟨b2, hf⟩ := ckO_some hf
    obtain ⟨h3, uh3, g4, hf⟩ := bnd_some hf
    refine c_J5_100 X hω g4 (sd_of hω b2.1) b2.2 (hR := ⟨Nat.le_of_ble_eq_true rfl, Nat.le_of_ble_eq_true rfl⟩) ⟨Nat.zero_le _, Nat.zero_le _⟩ (Nat.le_of_ble_eq_true rfl) dJ5_setLength_d00df_15 ?_
    refine x_aload_n X dJ5_setLength_d00df_18 0 rfl rfl ?_
    obtain ⟨b5, hf⟩ := ckO_some hf
    refine x_geti X (i := o) fl_J5_79_0 (sd_of hω b5.1) b5.2 rfl dJ5_setLength_d00df_19 ?_
    refine x_iload_n X dJ5_setLength_d00df_22 1 rfl rfl ?_
    refine x_icmp_ge X 63 dJ5_setLength_d00df_23 (by decide) (fun c6 => ?_) (fun c6 => ?_)
    · replace hf := (if_pos c6).symm.trans hf
      refine x_aload_n X dJ5_setLength_d00df_26 0 rfl rfl ?_
      obtain ⟨b7, hf⟩ := ckO_some hf
      obtain ⟨r8, g9, hf⟩ := bnr_some hf
      refine c_J5_83 X hω g9 (sd_of hω b7.1) b7.2 (hR := ⟨Nat.le_of_ble_eq_true rfl, Nat.le_of_ble_eq_true rfl⟩) ⟨Nat.zero_le _, Nat.zero_le _⟩ (Nat.le_of_ble_eq_true rfl) dJ5_setLength_d00df_27 ?_
      refine x_if_eq X 48 dJ5_setLength_d00df_30 (by decide) (fun c10 => ?_) (fun c10 => ?_)
      · replace hf := (if_pos c10).symm.trans hf
        refine x_aload_n X dJ5_setLength_d00df_48 0 rfl rfl ?_
        obtain ⟨b11, hf⟩ := ckO_some hf
        refine x_getsj X (i := o) 1 fl_J5_15_0 (sd_of hω b11.1) b11.2 rfl (j := (o + 1)) rfl dJ5_setLength_d00df_49 ?_
        refine x_aload_n X dJ5_setLength_d00df_52 0 rfl rfl ?_
        obtain ⟨b12, hf⟩ := ckO_some hf
        refine x_geti X (i := o) fl_J5_79_0 (sd_of hω b12.1) b12.2 rfl dJ5_setLength_d00df_53 ?_
        refine x_iload_n X dJ5_setLength_d00df_56 1 rfl rfl ?_
        cases hf
      · replace hf := (if_neg c10).symm.trans hf
        refine x_aload_n X dJ5_setLength_d00df_33 0 rfl rfl ?_
        obtain ⟨b13, hf⟩ := ckO_some hf
        refine x_getsj X (i := o) 1 fl_J5_15_0 (sd_of hω b13.1) b13.2 rfl (j := (o + 1)) rfl dJ5_setLength_d00df_34 ?_
        refine x_aload_n X dJ5_setLength_d00df_37 0 rfl rfl ?_
        obtain ⟨b14, hf⟩ := ckO_some hf
        refine x_geti X (i := o) fl_J5_79_0 (sd_of hω b14.1) b14.2 rfl dJ5_setLength_d00df_38 ?_
        refine x_iload_n X dJ5_setLength_d00df_41 1 rfl rfl ?_
        cases hf
    · replace hf := (if_neg c6).symm.trans hf
      refine x_aload_n X dJ5_setLength_d00df_63 0 rfl rfl ?_
      obtain ⟨b15, hf⟩ := ckO_some hf
      refine x_geti X (i := o) fl_J5_79_0 (sd_of hω b15.1) b15.2 rfl dJ5_setLength_d00df_64 ?_
      refine x_iload_n X dJ5_setLength_d00df_67 1 rfl rfl ?_
      refine x_icmp_le X 76 dJ5_setLength_d00df_68 (by decide) (fun c16 => ?_) (fun c16 => ?_)
      · replace hf := (if_pos c16).symm.trans hf
        refine x_aload_n X dJ5_setLength_d00df_71 0 rfl rfl ?_
        refine x_iconst X (v := 1) dJ5_setLength_d00df_72 (by decide) ?_
        obtain ⟨b17, hf⟩ := ckO_some hf
        refine x_puti X (i := o) fl_J5_73_0 fw_0 (sd_of hω b17.1) b17.2 rfl rfl rfl rfl dJ5_setLength_d00df_73 ?_
        obtain ⟨h18, eh18, hf⟩ := nm_some hf
        refine x_nmh eh18 ?_
        refine x_lv [0, 1] rfl ?_
        exact k_J5_setLength_d00df_76 hω X R h18 _ _ hf
      · replace hf := (if_neg c16).symm.trans hf
        refine x_lv [0, 1] rfl ?_
        exact k_J5_setLength_d00df_76 hω X R h3 _ _ hf
theorem c_J4_333 {ω : XO} {rm : Room} {nL : Nat} {κ : XK} {cc : ByteArray} (X : XC ω rm nL κ cc "java/lang/StringBuilder") (hω : ω.2.2.2.1 = 1) {L : List Nat} {q : Nat → Nat} {h h' : hp} {cells slots pc : Nat} {lv : List (Nat × Value)} {rest : List Value} {o : Nat} {p0 : Int32} {r : Unit} (hf : f_J5_setLength_d00df h o p0 = some (h', r)) (hs : sd ω.2.2.2.1 o = true) (hk : kdOf h o = 0 + 1) (hR : rm_J5_setLength_d00df.frames + 1 ≤ rm.frames ∧ 8 + (2 + 11) + rm_J5_setLength_d00df.locals ≤ rm.locals) (hcs : cells ≤ rm.cells ∧ slots ≤ rm.slots) (hroom : (rest.map fun v => v.category).sum ≤ 8) (hd : decode cc pc = .ok (.invokespecial 333, 3)) (kk : XG ω rm nL κ L q h' cells slots (pc + 3) lv (rest)) : XG ω rm nL κ L q h cells slots pc lv (.int p0 :: .ref (q o) :: rest) := x_callSU X [.int p0] rest (k_J5_setLength_d00df hω hf) (by intro w hw; simp only [List.mem_cons, List.not_mem_nil, or_false] at hw; rcases hw with rfl | rfl | rfl | rfl | rfl <;> first | exact (mT_4 54 rfl rfl) | exact (mT_7 97 rfl rfl) | exact (mT_1 170 rfl rfl) | exact (mT_4 55 rfl rfl) | exact (mT_1 5 rfl rfl)) (mT_4 56 rfl rfl) ⟨by decide, (by decide : (parseMethodDescriptor yJ5_setLength_d00df.desc).map (fun d => d.parameters.length) = some 1)⟩ hR ⟨rfl, rfl⟩ hcs hs hk (by decide) rfl rfl hroom hd kk

abbrev rm_J4_setLength_d00df : Room := { frames := 2, cells := 0, slots := 0, locals := 43 }
def f_J4_setLength_d00df (h : hp) (o : Nat) (p0 : Int32) : Option (hp × Unit) := (ckO 1 h o 1
 (bnd (f_J5_setLength_d00df h o p0) fun h2 _ =>
 (some (h2, ()))))
set_option maxRecDepth 100000 in
set_option maxHeartbeats 4000000 in
theorem k_J4_setLength_d00df {ω : XO} (hω : ω.2.2.2.1 = 1) {L : List Nat} {q : Nat → Nat} {h h' : hp} {o : Nat} {p0 : Int32} {r : Unit} (hf : f_J4_setLength_d00df h o p0 = some (h', r)) : XM ω yJ4_setLength_d00df cJ4_setLength_d00df 2 none rm_J4_setLength_d00df L q h [.ref (q o), .int p0] none h' := by
  refine XM_intro [(0, .ref (q o)), (1, .int p0)] "java/lang/StringBuilder" (by decide) rfl rfl (Nat.le_of_ble_eq_true rfl) (fun κ X R => ?_)
  unfold f_J4_setLength_d00df at hf
  refine x_aload_n X dJ4_setLength_d00df_0 0 rfl rfl ?_
  refine x_iload_n X dJ4_setLength_d00df_1 1 rfl rfl ?_
  obtain ⟨b1, hf⟩ := ckO_some hf
  obtain ⟨h2, uh2, g3, hf⟩ := bnd_some hf
  refine c_J4_333 X hω g3 (sd_of hω b1.1) b1.2 (hR := ⟨Nat.le_of_ble_eq_true rfl, Nat.le_of_ble_eq_true rfl⟩) ⟨Nat.zero_le _, Nat.zero_le _⟩ (Nat.le_of_ble_eq_true rfl) dJ4_setLength_d00df_2 ?_
  exact x_retV X R hf dJ4_setLength_d00df_5
theorem mt_J4_setLength_d00df : MT yJ4_setLength_d00df cJ4_setLength_d00df 2 none "java/lang/StringBuilder" 1 := ⟨(mT_4 51 rfl rfl), (mT_4 52 rfl rfl), (mT_1 6 rfl rfl), (mT_4 53 rfl rfl), by decide⟩
theorem c_X11_232 {ω : XO} {rm : Room} {nL : Nat} {κ : XK} {cc : ByteArray} (X : XC ω rm nL κ cc "SignalBlind") (hω : ω.2.2.2.1 = 1) {L : List Nat} {q : Nat → Nat} {h h' : hp} {cells slots pc : Nat} {lv : List (Nat × Value)} {rest : List Value} {o : Nat} {p0 : Int32} {r : Unit} (hf : f_J4_setLength_d00df h o p0 = some (h', r)) (hs : sd ω.2.2.2.1 o = true) (hk : kdOf h o = 0 + 1) (hR : rm_J4_setLength_d00df.frames + 1 ≤ rm.frames ∧ 8 + (2 + 11) + rm_J4_setLength_d00df.locals ≤ rm.locals) (hcs : cells ≤ rm.cells ∧ slots ≤ rm.slots) (hroom : (rest.map fun v => v.category).sum ≤ 8) (hd : decode cc pc = .ok (.invokevirtual 232, 3)) (kk : XG ω rm nL κ L q h' cells slots (pc + 3) lv (rest)) : XG ω rm nL κ L q h cells slots pc lv (.int p0 :: .ref (q o) :: rest) := x_callV X [.int p0] rest (k_J4_setLength_d00df hω hf) mt_J4_setLength_d00df (mT_4 50 rfl rfl) hR ⟨rfl, rfl⟩ hcs hs hk (by decide) rfl rfl hroom hd kk

abbrev rm_J5_append_3fe6f : Room := { frames := 1, cells := 0, slots := 0, locals := 22 }
def f_J5_append_3fe6f_56 (h : hp) (a15 : Nat) (a16 : Int32) : Option (hp × Nat) := (ckO 1 h a15 1
 (ckO 1 h a15 1
 (ckO 1 h a15 1
 (nm (sI h a15 3 ((hI h a15 3) + (1 : Int32))) fun h20 =>
 none))))
def f_J5_append_3fe6f_45 (h : hp) (a9 : Nat) (a10 : Int32) : Option (hp × Nat) := (ckO 1 h a9 1
 (bnr (f_J5_isLatin1_aae02 h a9) fun r12 =>
 (if r12 = 0 then
 (f_J5_append_3fe6f_56 h a9 a10)
 else
 none)))
def f_J5_append_3fe6f_75 (h : hp) (a31 : Nat) : Option (hp × Nat) := (some (h, a31))
def f_J5_append_3fe6f (h : hp) (o : Nat) (p0 : Int32) : Option (hp × Nat) := (ckO 1 h o 1
 (ckO 1 h o 1
 (bnd (f_J5_ensureCapacityInternal_d00df h o ((hI h o 3) + (1 : Int32))) fun h3 _ =>
 (ckO 1 h3 o 1
 (bnr (f_J5_isLatin1_aae02 h3 o) fun r6 =>
 (if r6 = 0 then
 (f_J5_append_3fe6f_45 h3 o p0)
 else
 (bnr (f_J1_canEncode_fc78d h3 p0) fun r21 =>
 (if r21 = 0 then
 (f_J5_append_3fe6f_45 h3 o p0)
 else
 (ckO 1 h3 o 1
 (ckO 1 h3 o 1
 (ckO 1 h3 o 1
 (nm (sI h3 o 3 ((hI h3 o 3) + (1 : Int32))) fun h27 =>
 (ckA 1 h27 (o + 1) 1
 (chk (hI h3 o 3) (alen h27 (o + 1))
 (nm (tI h27 (o + 1) ((hI h3 o 3)).toNatClampNeg (vp_nar .byte ((p0).toInt8.toInt32))) fun h30 =>
 (f_J5_append_3fe6f_75 h30 o))))))))))))))))
set_option maxRecDepth 100000 in
set_option maxHeartbeats 4000000 in
theorem k_J5_append_3fe6f_56 {ω : XO} (hω : ω.2.2.2.1 = 1) {κ : XK} (X : XC ω rm_J5_append_3fe6f 2 κ cJ5_append_3fe6f "java/lang/AbstractStringBuilder") {L : List Nat} {q : Nat → Nat} {h' : hp} {r : Nat} (R : XRet ω rm_J5_append_3fe6f κ (some (.object "java/lang/AbstractStringBuilder")) L q h' (some (.ref (q r)))) : ∀ (h : hp) (a15 : Nat) (a16 : Int32), f_J5_append_3fe6f_56 h a15 a16 = some (h', r) → XG ω rm_J5_append_3fe6f 2 κ L q h 0 0 56 [(0, .ref (q a15)), (1, .int a16)] [] := by
  intro h a15 a16 hf
  unfold f_J5_append_3fe6f_56 at hf
  refine x_aload_n X dJ5_append_3fe6f_56 0 rfl rfl ?_
  obtain ⟨b17, hf⟩ := ckO_some hf
  refine x_getsj X (i := a15) 1 fl_J5_15_0 (sd_of hω b17.1) b17.2 rfl (j := (a15 + 1)) rfl dJ5_append_3fe6f_57 ?_
  refine x_aload_n X dJ5_append_3fe6f_60 0 rfl rfl ?_
  refine x_dup X dJ5_append_3fe6f_61 rfl ?_
  obtain ⟨b18, hf⟩ := ckO_some hf
  refine x_geti X (i := a15) fl_J5_79_0 (sd_of hω b18.1) b18.2 rfl dJ5_append_3fe6f_62 ?_
  refine x_dup_x1 X dJ5_append_3fe6f_65 rfl rfl ?_
  refine x_iconst X (v := 1) dJ5_append_3fe6f_66 (by decide) ?_
  refine x_iadd X dJ5_append_3fe6f_67 ?_
  obtain ⟨b19, hf⟩ := ckO_some hf
  refine x_puti X (i := a15) fl_J5_79_0 fw_0 (sd_of hω b19.1) b19.2 rfl rfl rfl rfl dJ5_append_3fe6f_68 ?_
  obtain ⟨h20, eh20, hf⟩ := nm_some hf
  refine x_nmh eh20 ?_
  refine x_iload_n X dJ5_append_3fe6f_71 1 rfl rfl ?_
  cases hf
set_option maxRecDepth 100000 in
set_option maxHeartbeats 4000000 in
theorem k_J5_append_3fe6f_45 {ω : XO} (hω : ω.2.2.2.1 = 1) {κ : XK} (X : XC ω rm_J5_append_3fe6f 2 κ cJ5_append_3fe6f "java/lang/AbstractStringBuilder") {L : List Nat} {q : Nat → Nat} {h' : hp} {r : Nat} (R : XRet ω rm_J5_append_3fe6f κ (some (.object "java/lang/AbstractStringBuilder")) L q h' (some (.ref (q r)))) : ∀ (h : hp) (a9 : Nat) (a10 : Int32), f_J5_append_3fe6f_45 h a9 a10 = some (h', r) → XG ω rm_J5_append_3fe6f 2 κ L q h 0 0 45 [(0, .ref (q a9)), (1, .int a10)] [] := by
  intro h a9 a10 hf
  unfold f_J5_append_3fe6f_45 at hf
  refine x_aload_n X dJ5_append_3fe6f_45 0 rfl rfl ?_
  obtain ⟨b11, hf⟩ := ckO_some hf
  obtain ⟨r12, g13, hf⟩ := bnr_some hf
  refine c_J5_83 X hω g13 (sd_of hω b11.1) b11.2 (hR := ⟨Nat.le_of_ble_eq_true rfl, Nat.le_of_ble_eq_true rfl⟩) ⟨Nat.zero_le _, Nat.zero_le _⟩ (Nat.le_of_ble_eq_true rfl) dJ5_append_3fe6f_46 ?_
  refine x_if_eq X 56 dJ5_append_3fe6f_49 (by decide) (fun c14 => ?_) (fun c14 => ?_)
  · replace hf := (if_pos c14).symm.trans hf
    refine x_lv [0, 1] rfl ?_
    exact k_J5_append_3fe6f_56 hω X R h _ _ hf
  · replace hf := (if_neg c14).symm.trans hf
    refine x_aload_n X dJ5_append_3fe6f_52 0 rfl rfl ?_
    cases hf
set_option maxRecDepth 100000 in
set_option maxHeartbeats 4000000 in
theorem k_J5_append_3fe6f_75 {ω : XO} (hω : ω.2.2.2.1 = 1) {κ : XK} (X : XC ω rm_J5_append_3fe6f 2 κ cJ5_append_3fe6f "java/lang/AbstractStringBuilder") {L : List Nat} {q : Nat → Nat} {h' : hp} {r : Nat} (R : XRet ω rm_J5_append_3fe6f κ (some (.object "java/lang/AbstractStringBuilder")) L q h' (some (.ref (q r)))) : ∀ (h : hp) (a31 : Nat), f_J5_append_3fe6f_75 h a31 = some (h', r) → XG ω rm_J5_append_3fe6f 2 κ L q h 0 0 75 [(0, .ref (q a31))] [] := by
  intro h a31 hf
  unfold f_J5_append_3fe6f_75 at hf
  refine x_aload_n X dJ5_append_3fe6f_75 0 rfl rfl ?_
  exact x_retSA X R ⟨_, rfl⟩ hf dJ5_append_3fe6f_76
set_option maxRecDepth 100000 in
set_option maxHeartbeats 4000000 in
theorem k_J5_append_3fe6f {ω : XO} (hω : ω.2.2.2.1 = 1) {L : List Nat} {q : Nat → Nat} {h h' : hp} {o : Nat} {p0 : Int32} {r : Nat} (hf : f_J5_append_3fe6f h o p0 = some (h', r)) : XM ω yJ5_append_3fe6f cJ5_append_3fe6f 2 (some (.object "java/lang/AbstractStringBuilder")) rm_J5_append_3fe6f L q h [.ref (q o), .int p0] (some (.ref (q r))) h' := by
  refine XM_intro [(0, .ref (q o)), (1, .int p0)] "java/lang/AbstractStringBuilder" (by decide) rfl rfl (Nat.le_of_ble_eq_true rfl) (fun κ X R => ?_)
  unfold f_J5_append_3fe6f at hf
  refine x_aload_n X dJ5_append_3fe6f_0 0 rfl rfl ?_
  refine x_aload_n X dJ5_append_3fe6f_1 0 rfl rfl ?_
  obtain ⟨b1, hf⟩ := ckO_some hf
  refine x_geti X (i := o) fl_J5_79_0 (sd_of hω b1.1) b1.2 rfl dJ5_append_3fe6f_2 ?_
  refine x_iconst X (v := 1) dJ5_append_3fe6f_5 (by decide) ?_
  refine x_iadd X dJ5_append_3fe6f_6 ?_
  obtain ⟨b2, hf⟩ := ckO_some hf
  obtain ⟨h3, uh3, g4, hf⟩ := bnd_some hf
  refine c_J5_100 X hω g4 (sd_of hω b2.1) b2.2 (hR := ⟨Nat.le_of_ble_eq_true rfl, Nat.le_of_ble_eq_true rfl⟩) ⟨Nat.zero_le _, Nat.zero_le _⟩ (Nat.le_of_ble_eq_true rfl) dJ5_append_3fe6f_7 ?_
  refine x_aload_n X dJ5_append_3fe6f_10 0 rfl rfl ?_
  obtain ⟨b5, hf⟩ := ckO_some hf
  obtain ⟨r6, g7, hf⟩ := bnr_some hf
  refine c_J5_83 X hω g7 (sd_of hω b5.1) b5.2 (hR := ⟨Nat.le_of_ble_eq_true rfl, Nat.le_of_ble_eq_true rfl⟩) ⟨Nat.zero_le _, Nat.zero_le _⟩ (Nat.le_of_ble_eq_true rfl) dJ5_append_3fe6f_11 ?_
  refine x_if_eq X 45 dJ5_append_3fe6f_14 (by decide) (fun c8 => ?_) (fun c8 => ?_)
  · replace hf := (if_pos c8).symm.trans hf
    refine x_lv [0, 1] rfl ?_
    exact k_J5_append_3fe6f_45 hω X R h3 _ _ hf
  · replace hf := (if_neg c8).symm.trans hf
    refine x_iload_n X dJ5_append_3fe6f_17 1 rfl rfl ?_
    obtain ⟨r21, g22, hf⟩ := bnr_some hf
    refine c_J5_191 X hω g22 (hR := ⟨Nat.le_of_ble_eq_true rfl, Nat.le_of_ble_eq_true rfl⟩) ⟨Nat.zero_le _, Nat.zero_le _⟩ (Nat.le_of_ble_eq_true rfl) dJ5_append_3fe6f_18 ?_
    refine x_if_eq X 45 dJ5_append_3fe6f_21 (by decide) (fun c23 => ?_) (fun c23 => ?_)
    · replace hf := (if_pos c23).symm.trans hf
      refine x_lv [0, 1] rfl ?_
      exact k_J5_append_3fe6f_45 hω X R h3 _ _ hf
    · replace hf := (if_neg c23).symm.trans hf
      refine x_aload_n X dJ5_append_3fe6f_24 0 rfl rfl ?_
      obtain ⟨b24, hf⟩ := ckO_some hf
      refine x_getsj X (i := o) 1 fl_J5_15_0 (sd_of hω b24.1) b24.2 rfl (j := (o + 1)) rfl dJ5_append_3fe6f_25 ?_
      refine x_aload_n X dJ5_append_3fe6f_28 0 rfl rfl ?_
      refine x_dup X dJ5_append_3fe6f_29 rfl ?_
      obtain ⟨b25, hf⟩ := ckO_some hf
      refine x_geti X (i := o) fl_J5_79_0 (sd_of hω b25.1) b25.2 rfl dJ5_append_3fe6f_30 ?_
      refine x_dup_x1 X dJ5_append_3fe6f_33 rfl rfl ?_
      refine x_iconst X (v := 1) dJ5_append_3fe6f_34 (by decide) ?_
      refine x_iadd X dJ5_append_3fe6f_35 ?_
      obtain ⟨b26, hf⟩ := ckO_some hf
      refine x_puti X (i := o) fl_J5_79_0 fw_0 (sd_of hω b26.1) b26.2 rfl rfl rfl rfl dJ5_append_3fe6f_36 ?_
      obtain ⟨h27, eh27, hf⟩ := nm_some hf
      refine x_nmh eh27 ?_
      refine x_iload_n X dJ5_append_3fe6f_39 1 rfl rfl ?_
      refine x_i2b X dJ5_append_3fe6f_40 ?_
      obtain ⟨b28, hf⟩ := ckA_some hf
      obtain ⟨z29, hf⟩ := chk_some hf
      refine x_bast X (i := (o + 1)) (n := (alen h27 (o + 1))) (sd_of hω b28.1) b28.2 z29 dJ5_append_3fe6f_41 ?_
      obtain ⟨h30, eh30, hf⟩ := nm_some hf
      refine x_nmh eh30 ?_
      refine x_goto X 75 dJ5_append_3fe6f_42 (by decide) ?_
      refine x_lv [0] rfl ?_
      exact k_J5_append_3fe6f_75 hω X R h30 _ hf
theorem c_J4_50 {ω : XO} {rm : Room} {nL : Nat} {κ : XK} {cc : ByteArray} (X : XC ω rm nL κ cc "java/lang/StringBuilder") (hω : ω.2.2.2.1 = 1) {L : List Nat} {q : Nat → Nat} {h h' : hp} {cells slots pc : Nat} {lv : List (Nat × Value)} {rest : List Value} {o : Nat} {p0 : Int32} {r : Nat} (hf : f_J5_append_3fe6f h o p0 = some (h', r)) (hs : sd ω.2.2.2.1 o = true) (hk : kdOf h o = 0 + 1) (hR : rm_J5_append_3fe6f.frames + 1 ≤ rm.frames ∧ 8 + (2 + 11) + rm_J5_append_3fe6f.locals ≤ rm.locals) (hcs : cells ≤ rm.cells ∧ slots ≤ rm.slots) (hroom : (rest.map fun v => v.category).sum ≤ 8) (hd : decode cc pc = .ok (.invokespecial 50, 3)) (kk : XG ω rm nL κ L q h' cells slots (pc + 3) lv (.ref (q r) :: rest)) : XG ω rm nL κ L q h cells slots pc lv (.int p0 :: .ref (q o) :: rest) := x_callSU X [.int p0] rest (k_J5_append_3fe6f hω hf) (by intro w hw; simp only [List.mem_cons, List.not_mem_nil, or_false] at hw; rcases hw with rfl | rfl | rfl | rfl | rfl <;> first | exact (mT_4 115 rfl rfl) | exact (mT_7 100 rfl rfl) | exact (mT_1 170 rfl rfl) | exact (mT_4 116 rfl rfl) | exact (mT_1 5 rfl rfl)) (mT_4 117 rfl rfl) ⟨by decide, (by decide : (parseMethodDescriptor yJ5_append_3fe6f.desc).map (fun d => d.parameters.length) = some 1)⟩ hR ⟨rfl, rfl⟩ hcs hs hk (by decide) rfl rfl hroom hd kk

abbrev rm_J4_append_cf468 : Room := { frames := 2, cells := 0, slots := 0, locals := 43 }
def f_J4_append_cf468 (h : hp) (o : Nat) (p0 : Int32) : Option (hp × Nat) := (ckO 1 h o 1
 (bnd (f_J5_append_3fe6f h o p0) fun h2 r3 =>
 (some (h2, o))))
set_option maxRecDepth 100000 in
set_option maxHeartbeats 4000000 in
theorem k_J4_append_cf468 {ω : XO} (hω : ω.2.2.2.1 = 1) {L : List Nat} {q : Nat → Nat} {h h' : hp} {o : Nat} {p0 : Int32} {r : Nat} (hf : f_J4_append_cf468 h o p0 = some (h', r)) : XM ω yJ4_append_cf468 cJ4_append_cf468 2 (some (.object "java/lang/StringBuilder")) rm_J4_append_cf468 L q h [.ref (q o), .int p0] (some (.ref (q r))) h' := by
  refine XM_intro [(0, .ref (q o)), (1, .int p0)] "java/lang/StringBuilder" (by decide) rfl rfl (Nat.le_of_ble_eq_true rfl) (fun κ X R => ?_)
  unfold f_J4_append_cf468 at hf
  refine x_aload_n X dJ4_append_cf468_0 0 rfl rfl ?_
  refine x_iload_n X dJ4_append_cf468_1 1 rfl rfl ?_
  obtain ⟨b1, hf⟩ := ckO_some hf
  obtain ⟨h2, r3, g4, hf⟩ := bnd_some hf
  refine c_J4_50 X hω g4 (sd_of hω b1.1) b1.2 (hR := ⟨Nat.le_of_ble_eq_true rfl, Nat.le_of_ble_eq_true rfl⟩) ⟨Nat.zero_le _, Nat.zero_le _⟩ (Nat.le_of_ble_eq_true rfl) dJ4_append_cf468_2 ?_
  refine x_pop X dJ4_append_cf468_5 rfl ?_
  refine x_aload_n X dJ4_append_cf468_6 0 rfl rfl ?_
  exact x_retSA X R ⟨_, rfl⟩ hf dJ4_append_cf468_7
theorem mt_J4_append_cf468 : MT yJ4_append_cf468 cJ4_append_cf468 2 (some (.object "java/lang/StringBuilder")) "java/lang/StringBuilder" 1 := ⟨(mT_4 112 rfl rfl), (mT_4 113 rfl rfl), (mT_1 6 rfl rfl), (mT_4 114 rfl rfl), by decide⟩
theorem c_X4_19 {ω : XO} {rm : Room} {nL : Nat} {κ : XK} {cc : ByteArray} (X : XC ω rm nL κ cc "SignalBlind$Sender") (hω : ω.2.2.2.1 = 1) {L : List Nat} {q : Nat → Nat} {h h' : hp} {cells slots pc : Nat} {lv : List (Nat × Value)} {rest : List Value} {o : Nat} {p0 : Int32} {r : Nat} (hf : f_J4_append_cf468 h o p0 = some (h', r)) (hs : sd ω.2.2.2.1 o = true) (hk : kdOf h o = 0 + 1) (hR : rm_J4_append_cf468.frames + 1 ≤ rm.frames ∧ 8 + (2 + 11) + rm_J4_append_cf468.locals ≤ rm.locals) (hcs : cells ≤ rm.cells ∧ slots ≤ rm.slots) (hroom : (rest.map fun v => v.category).sum ≤ 8) (hd : decode cc pc = .ok (.invokevirtual 19, 3)) (kk : XG ω rm nL κ L q h' cells slots (pc + 3) lv (.ref (q r) :: rest)) : XG ω rm nL κ L q h cells slots pc lv (.int p0 :: .ref (q o) :: rest) := x_callV X [.int p0] rest (k_J4_append_cf468 hω hf) mt_J4_append_cf468 (mT_4 164 rfl rfl) hR ⟨rfl, rfl⟩ hcs hs hk (by decide) rfl rfl hroom hd kk
theorem c_X0_9 {ω : XO} {rm : Room} {nL : Nat} {κ : XK} {cc : ByteArray} (X : XC ω rm nL κ cc "SignalBlind$Half") (hω : ω.2.2.2.1 = 1) {L : List Nat} {q : Nat → Nat} {h h' : hp} {cells slots pc : Nat} {lv : List (Nat × Value)} {rest : List Value} {o : Nat} {p0 : Int32} {r : Nat} (hf : f_J4_append_cf468 h o p0 = some (h', r)) (hs : sd ω.2.2.2.1 o = true) (hk : kdOf h o = 0 + 1) (hR : rm_J4_append_cf468.frames + 1 ≤ rm.frames ∧ 8 + (2 + 11) + rm_J4_append_cf468.locals ≤ rm.locals) (hcs : cells ≤ rm.cells ∧ slots ≤ rm.slots) (hroom : (rest.map fun v => v.category).sum ≤ 8) (hd : decode cc pc = .ok (.invokevirtual 9, 3)) (kk : XG ω rm nL κ L q h' cells slots (pc + 3) lv (.ref (q r) :: rest)) : XG ω rm nL κ L q h cells slots pc lv (.int p0 :: .ref (q o) :: rest) := x_callV X [.int p0] rest (k_J4_append_cf468 hω hf) mt_J4_append_cf468 (mT_4 111 rfl rfl) hR ⟨rfl, rfl⟩ hcs hs hk (by decide) rfl rfl hroom hd kk
theorem c_X5_17 {ω : XO} {rm : Room} {nL : Nat} {κ : XK} {cc : ByteArray} (X : XC ω rm nL κ cc "SignalBlind$Sister") (hω : ω.2.2.2.1 = 1) {L : List Nat} {q : Nat → Nat} {h h' : hp} {cells slots pc : Nat} {lv : List (Nat × Value)} {rest : List Value} {o : Nat} {p0 : Int32} {r : Nat} (hf : f_J4_append_cf468 h o p0 = some (h', r)) (hs : sd ω.2.2.2.1 o = true) (hk : kdOf h o = 0 + 1) (hR : rm_J4_append_cf468.frames + 1 ≤ rm.frames ∧ 8 + (2 + 11) + rm_J4_append_cf468.locals ≤ rm.locals) (hcs : cells ≤ rm.cells ∧ slots ≤ rm.slots) (hroom : (rest.map fun v => v.category).sum ≤ 8) (hd : decode cc pc = .ok (.invokevirtual 17, 3)) (kk : XG ω rm nL κ L q h' cells slots (pc + 3) lv (.ref (q r) :: rest)) : XG ω rm nL κ L q h cells slots pc lv (.int p0 :: .ref (q o) :: rest) := x_callV X [.int p0] rest (k_J4_append_cf468 hω hf) mt_J4_append_cf468 (mT_4 151 rfl rfl) hR ⟨rfl, rfl⟩ hcs hs hk (by decide) rfl rfl hroom hd kk
theorem c_X8_11 {ω : XO} {rm : Room} {nL : Nat} {κ : XK} {cc : ByteArray} (X : XC ω rm nL κ cc "SignalBlind$Told") (hω : ω.2.2.2.1 = 1) {L : List Nat} {q : Nat → Nat} {h h' : hp} {cells slots pc : Nat} {lv : List (Nat × Value)} {rest : List Value} {o : Nat} {p0 : Int32} {r : Nat} (hf : f_J4_append_cf468 h o p0 = some (h', r)) (hs : sd ω.2.2.2.1 o = true) (hk : kdOf h o = 0 + 1) (hR : rm_J4_append_cf468.frames + 1 ≤ rm.frames ∧ 8 + (2 + 11) + rm_J4_append_cf468.locals ≤ rm.locals) (hcs : cells ≤ rm.cells ∧ slots ≤ rm.slots) (hroom : (rest.map fun v => v.category).sum ≤ 8) (hd : decode cc pc = .ok (.invokevirtual 11, 3)) (kk : XG ω rm nL κ L q h' cells slots (pc + 3) lv (.ref (q r) :: rest)) : XG ω rm nL κ L q h cells slots pc lv (.int p0 :: .ref (q o) :: rest) := x_callV X [.int p0] rest (k_J4_append_cf468 hω hf) mt_J4_append_cf468 (mT_4 159 rfl rfl) hR ⟨rfl, rfl⟩ hcs hs hk (by decide) rfl rfl hroom hd kk
theorem c_X7_13 {ω : XO} {rm : Room} {nL : Nat} {κ : XK} {cc : ByteArray} (X : XC ω rm nL κ cc "SignalBlind$Tilted") (hω : ω.2.2.2.1 = 1) {L : List Nat} {q : Nat → Nat} {h h' : hp} {cells slots pc : Nat} {lv : List (Nat × Value)} {rest : List Value} {o : Nat} {p0 : Int32} {r : Nat} (hf : f_J4_append_cf468 h o p0 = some (h', r)) (hs : sd ω.2.2.2.1 o = true) (hk : kdOf h o = 0 + 1) (hR : rm_J4_append_cf468.frames + 1 ≤ rm.frames ∧ 8 + (2 + 11) + rm_J4_append_cf468.locals ≤ rm.locals) (hcs : cells ≤ rm.cells ∧ slots ≤ rm.slots) (hroom : (rest.map fun v => v.category).sum ≤ 8) (hd : decode cc pc = .ok (.invokevirtual 13, 3)) (kk : XG ω rm nL κ L q h' cells slots (pc + 3) lv (.ref (q r) :: rest)) : XG ω rm nL κ L q h cells slots pc lv (.int p0 :: .ref (q o) :: rest) := x_callV X [.int p0] rest (k_J4_append_cf468 hω hf) mt_J4_append_cf468 (mT_4 177 rfl rfl) hR ⟨rfl, rfl⟩ hcs hs hk (by decide) rfl rfl hroom hd kk
theorem c_X1_7 {ω : XO} {rm : Room} {nL : Nat} {κ : XK} {cc : ByteArray} (X : XC ω rm nL κ cc "SignalBlind$Nurse") (hω : ω.2.2.2.1 = 1) {L : List Nat} {q : Nat → Nat} {h h' : hp} {cells slots pc : Nat} {lv : List (Nat × Value)} {rest : List Value} {o : Nat} {p0 : Int32} {r : Nat} (hf : f_J4_append_cf468 h o p0 = some (h', r)) (hs : sd ω.2.2.2.1 o = true) (hk : kdOf h o = 0 + 1) (hR : rm_J4_append_cf468.frames + 1 ≤ rm.frames ∧ 8 + (2 + 11) + rm_J4_append_cf468.locals ≤ rm.locals) (hcs : cells ≤ rm.cells ∧ slots ≤ rm.slots) (hroom : (rest.map fun v => v.category).sum ≤ 8) (hd : decode cc pc = .ok (.invokevirtual 7, 3)) (kk : XG ω rm nL κ L q h' cells slots (pc + 3) lv (.ref (q r) :: rest)) : XG ω rm nL κ L q h cells slots pc lv (.int p0 :: .ref (q o) :: rest) := x_callV X [.int p0] rest (k_J4_append_cf468 hω hf) mt_J4_append_cf468 (mT_4 197 rfl rfl) hR ⟨rfl, rfl⟩ hcs hs hk (by decide) rfl rfl hroom hd kk
theorem c_X10_11 {ω : XO} {rm : Room} {nL : Nat} {κ : XK} {cc : ByteArray} (X : XC ω rm nL κ cc "SignalBlind$Wind") (hω : ω.2.2.2.1 = 1) {L : List Nat} {q : Nat → Nat} {h h' : hp} {cells slots pc : Nat} {lv : List (Nat × Value)} {rest : List Value} {o : Nat} {p0 : Int32} {r : Nat} (hf : f_J4_append_cf468 h o p0 = some (h', r)) (hs : sd ω.2.2.2.1 o = true) (hk : kdOf h o = 0 + 1) (hR : rm_J4_append_cf468.frames + 1 ≤ rm.frames ∧ 8 + (2 + 11) + rm_J4_append_cf468.locals ≤ rm.locals) (hcs : cells ≤ rm.cells ∧ slots ≤ rm.slots) (hroom : (rest.map fun v => v.category).sum ≤ 8) (hd : decode cc pc = .ok (.invokevirtual 11, 3)) (kk : XG ω rm nL κ L q h' cells slots (pc + 3) lv (.ref (q r) :: rest)) : XG ω rm nL κ L q h cells slots pc lv (.int p0 :: .ref (q o) :: rest) := x_callV X [.int p0] rest (k_J4_append_cf468 hω hf) mt_J4_append_cf468 (mT_4 208 rfl rfl) hR ⟨rfl, rfl⟩ hcs hs hk (by decide) rfl rfl hroom hd kk

abbrev rm_X0_showing : Room := { frames := 0, cells := 0, slots := 0, locals := 0 }
def f_X0_showing (h : hp) (o : Nat) (p0 : Int32) (p1 : Int32) (p2 : Int32) (p3 : Int32) : Option Int32 := (some (p0 &&& (341 : Int32)))
set_option maxRecDepth 100000 in
set_option maxHeartbeats 4000000 in
theorem k_X0_showing {ω : XO} (hω : ω.2.2.2.1 = 1) {L : List Nat} {q : Nat → Nat} {h : hp} {o : Nat} {p0 : Int32} {p1 : Int32} {p2 : Int32} {p3 : Int32} {r : Int32} (hf : f_X0_showing h o p0 p1 p2 p3 = some r) : XM ω yX0_showing cX0_showing 5 (some .int) rm_X0_showing L q h [.ref (q o), .int p0, .int p1, .int p2, .int p3] (some (.int r)) h := by
  refine XM_intro [(0, .ref (q o)), (1, .int p0), (2, .int p1), (3, .int p2), (4, .int p3)] "SignalBlind$Half" (by decide) rfl rfl (Nat.le_of_ble_eq_true rfl) (fun κ X R => ?_)
  unfold f_X0_showing at hf
  refine x_iload_n X dX0_showing_0 1 rfl rfl ?_
  refine x_sipush X (v := 341) dX0_showing_1 (by decide) ?_
  refine x_iand X dX0_showing_4 ?_
  exact x_retRI X R hf dX0_showing_5
theorem c_X10_7 {ω : XO} {rm : Room} {nL : Nat} {κ : XK} {cc : ByteArray} (X : XC ω rm nL κ cc "SignalBlind$Wind") (hω : ω.2.2.2.1 = 1) {L : List Nat} {q : Nat → Nat} {h : hp} {cells slots pc : Nat} {lv : List (Nat × Value)} {rest : List Value} {o : Nat} {p0 : Int32} {p1 : Int32} {p2 : Int32} {p3 : Int32} {r : Int32} (hf : f_X0_showing h o p0 p1 p2 p3 = some r) (hb : sd 1 o = true ∧ kdOf h o ∈ sndK) (hR : rm_X0_showing.frames + 1 ≤ rm.frames ∧ 8 + (5 + 11) + rm_X0_showing.locals ≤ rm.locals) (hcs : cells ≤ rm.cells ∧ slots ≤ rm.slots) (hroom : (rest.map fun v => v.category).sum ≤ 8) (hd : decode cc pc = .ok (.invokespecial 7, 3)) (kk : XG ω rm nL κ L q h cells slots (pc + 3) lv (.int r :: rest)) : XG ω rm nL κ L q h cells slots pc lv (.int p3 :: .int p2 :: .int p1 :: .int p0 :: .ref (q o) :: rest) := by
  have hs := sd_of hω hb.1
  rcases snd_cases hb.2 with e | e | e | e | e | e | e <;> exact x_callSU X [.int p0, .int p1, .int p2, .int p3] rest (k_X0_showing hω hf) (by intro w hw; simp only [List.mem_cons, List.not_mem_nil, or_false] at hw; rcases hw with rfl | rfl | rfl | rfl | rfl <;> first | exact (mT_2 185 rfl rfl) | exact (mT_7 96 rfl rfl) | exact (mT_2 92 rfl rfl) | exact (mT_2 162 rfl rfl) | exact (mT_1 13 rfl rfl)) (mT_2 163 rfl rfl) ⟨by decide, (by decide : (parseMethodDescriptor yX0_showing.desc).map (fun d => d.parameters.length) = some 4)⟩ hR ⟨rfl, rfl⟩ hcs hs e (by decide) rfl rfl hroom hd kk

abbrev rm_X1_showing : Room := { frames := 0, cells := 0, slots := 0, locals := 0 }
def f_X1_showing (h : hp) (o : Nat) (p0 : Int32) (p1 : Int32) (p2 : Int32) (p3 : Int32) : Option Int32 := (some (p0 ^^^ ((1 : Int32) <<< (p1 &&& 31))))
set_option maxRecDepth 100000 in
set_option maxHeartbeats 4000000 in
theorem k_X1_showing {ω : XO} (hω : ω.2.2.2.1 = 1) {L : List Nat} {q : Nat → Nat} {h : hp} {o : Nat} {p0 : Int32} {p1 : Int32} {p2 : Int32} {p3 : Int32} {r : Int32} (hf : f_X1_showing h o p0 p1 p2 p3 = some r) : XM ω yX1_showing cX1_showing 5 (some .int) rm_X1_showing L q h [.ref (q o), .int p0, .int p1, .int p2, .int p3] (some (.int r)) h := by
  refine XM_intro [(0, .ref (q o)), (1, .int p0), (2, .int p1), (3, .int p2), (4, .int p3)] "SignalBlind$Nurse" (by decide) rfl rfl (Nat.le_of_ble_eq_true rfl) (fun κ X R => ?_)
  unfold f_X1_showing at hf
  refine x_iload_n X dX1_showing_0 1 rfl rfl ?_
  refine x_iconst X (v := 1) dX1_showing_1 (by decide) ?_
  refine x_iload_n X dX1_showing_2 2 rfl rfl ?_
  refine x_ishl X dX1_showing_3 ?_
  refine x_ixor X dX1_showing_4 ?_
  exact x_retRI X R hf dX1_showing_5
theorem c_X8_7 {ω : XO} {rm : Room} {nL : Nat} {κ : XK} {cc : ByteArray} (X : XC ω rm nL κ cc "SignalBlind$Told") (hω : ω.2.2.2.1 = 1) {L : List Nat} {q : Nat → Nat} {h : hp} {cells slots pc : Nat} {lv : List (Nat × Value)} {rest : List Value} {o : Nat} {p0 : Int32} {p1 : Int32} {p2 : Int32} {p3 : Int32} {r : Int32} (hf : f_X1_showing h o p0 p1 p2 p3 = some r) (hb : sd 1 o = true ∧ kdOf h o ∈ sndK) (hR : rm_X1_showing.frames + 1 ≤ rm.frames ∧ 8 + (5 + 11) + rm_X1_showing.locals ≤ rm.locals) (hcs : cells ≤ rm.cells ∧ slots ≤ rm.slots) (hroom : (rest.map fun v => v.category).sum ≤ 8) (hd : decode cc pc = .ok (.invokespecial 7, 3)) (kk : XG ω rm nL κ L q h cells slots (pc + 3) lv (.int r :: rest)) : XG ω rm nL κ L q h cells slots pc lv (.int p3 :: .int p2 :: .int p1 :: .int p0 :: .ref (q o) :: rest) := by
  have hs := sd_of hω hb.1
  rcases snd_cases hb.2 with e | e | e | e | e | e | e <;> exact x_callSU X [.int p0, .int p1, .int p2, .int p3] rest (k_X1_showing hω hf) (by intro w hw; simp only [List.mem_cons, List.not_mem_nil, or_false] at hw; rcases hw with rfl | rfl | rfl | rfl | rfl <;> first | exact (mT_2 181 rfl rfl) | exact (mT_7 95 rfl rfl) | exact (mT_2 102 rfl rfl) | exact (mT_2 165 rfl rfl) | exact (mT_1 14 rfl rfl)) (mT_2 166 rfl rfl) ⟨by decide, (by decide : (parseMethodDescriptor yX1_showing.desc).map (fun d => d.parameters.length) = some 4)⟩ hR ⟨rfl, rfl⟩ hcs hs e (by decide) rfl rfl hroom hd kk

abbrev rm_X2_isFull : Room := { frames := 0, cells := 0, slots := 0, locals := 0 }
def f_X2_isFull_17 (h : hp) (a5 : Int32) : Option Int32 := (ckZ a5
 (some a5))
def f_X2_isFull (h : hp) (o : Nat) : Option Int32 := (ckO 1 h o 4
 (ckO 1 h o 4
 (ckA 1 h (o + 1) 0
 (if (hI h o 1) < (Int32.ofNat (alen h (o + 1))) then
 (f_X2_isFull_17 h (0 : Int32))
 else
 (f_X2_isFull_17 h (1 : Int32))))))
set_option maxRecDepth 100000 in
set_option maxHeartbeats 4000000 in
theorem k_X2_isFull_17 {ω : XO} (hω : ω.2.2.2.1 = 1) {κ : XK} (X : XC ω rm_X2_isFull 1 κ cX2_isFull "SignalBlind$Row") {L : List Nat} {q : Nat → Nat} {h : hp} {r : Int32} (R : XRet ω rm_X2_isFull κ (some .boolean) L q h (some (.int r))) : ∀ (a5 : Int32), f_X2_isFull_17 h a5 = some r → XG ω rm_X2_isFull 1 κ L q h 0 0 17 [] [.int a5] := by
  intro a5 hf
  unfold f_X2_isFull_17 at hf
  obtain ⟨z6, hf⟩ := ckZ_some hf
  exact x_retRZ X R z6 hf dX2_isFull_17
set_option maxRecDepth 100000 in
set_option maxHeartbeats 4000000 in
theorem k_X2_isFull {ω : XO} (hω : ω.2.2.2.1 = 1) {L : List Nat} {q : Nat → Nat} {h : hp} {o : Nat} {r : Int32} (hf : f_X2_isFull h o = some r) : XM ω yX2_isFull cX2_isFull 1 (some .boolean) rm_X2_isFull L q h [.ref (q o)] (some (.int r)) h := by
  refine XM_intro [(0, .ref (q o))] "SignalBlind$Row" (by decide) rfl rfl (Nat.le_of_ble_eq_true rfl) (fun κ X R => ?_)
  unfold f_X2_isFull at hf
  refine x_aload_n X dX2_isFull_0 0 rfl rfl ?_
  obtain ⟨b1, hf⟩ := ckO_some hf
  refine x_geti X (i := o) fl_X2_7_3 (sd_of hω b1.1) b1.2 rfl dX2_isFull_1 ?_
  refine x_aload_n X dX2_isFull_4 0 rfl rfl ?_
  obtain ⟨b2, hf⟩ := ckO_some hf
  refine x_getsj X (i := o) 1 fl_X2_13_3 (sd_of hω b2.1) b2.2 rfl (j := (o + 1)) rfl dX2_isFull_5 ?_
  obtain ⟨b3, hf⟩ := ckA_some hf
  refine x_alen X (i := (o + 1)) (n := (alen h (o + 1))) (e := 0) (by decide) (sd_of hω b3.1) b3.2 rfl dX2_isFull_8 ?_
  refine x_icmp_lt X 16 dX2_isFull_9 (by decide) (fun c4 => ?_) (fun c4 => ?_)
  · replace hf := (if_pos c4).symm.trans hf
    refine x_iconst X (v := 0) dX2_isFull_16 (by decide) ?_
    refine x_lv [] rfl ?_
    exact k_X2_isFull_17 hω X R _ hf
  · replace hf := (if_neg c4).symm.trans hf
    refine x_iconst X (v := 1) dX2_isFull_12 (by decide) ?_
    refine x_goto X 17 dX2_isFull_13 (by decide) ?_
    refine x_lv [] rfl ?_
    exact k_X2_isFull_17 hω X R _ hf
theorem mt_X2_isFull : MT yX2_isFull cX2_isFull 1 (some .boolean) "SignalBlind$Row" 0 := ⟨(mT_1 235 rfl rfl), (mT_1 236 rfl rfl), (mT_1 3 rfl rfl), (mT_1 237 rfl rfl), by decide⟩
theorem c_X11_80 {ω : XO} {rm : Room} {nL : Nat} {κ : XK} {cc : ByteArray} (X : XC ω rm nL κ cc "SignalBlind") (hω : ω.2.2.2.1 = 1) {L : List Nat} {q : Nat → Nat} {h : hp} {cells slots pc : Nat} {lv : List (Nat × Value)} {rest : List Value} {o : Nat} {r : Int32} (hf : f_X2_isFull h o = some r) (hs : sd ω.2.2.2.1 o = true) (hk : kdOf h o = 3 + 1) (hR : rm_X2_isFull.frames + 1 ≤ rm.frames ∧ 8 + (1 + 11) + rm_X2_isFull.locals ≤ rm.locals) (hcs : cells ≤ rm.cells ∧ slots ≤ rm.slots) (hroom : (rest.map fun v => v.category).sum ≤ 8) (hd : decode cc pc = .ok (.invokevirtual 80, 3)) (kk : XG ω rm nL κ L q h cells slots (pc + 3) lv (.int r :: rest)) : XG ω rm nL κ L q h cells slots pc lv (.ref (q o) :: rest) := x_callV X [] rest (k_X2_isFull hω hf) mt_X2_isFull (mT_1 234 rfl rfl) hR ⟨rfl, rfl⟩ hcs hs hk (by decide) rfl rfl hroom hd kk

abbrev rm_X2_add : Room := { frames := 0, cells := 0, slots := 0, locals := 0 }
def f_X2_add_32 (h : hp) (a13 : Nat) : Option (hp × Int32) := (ckO 1 h a13 4
 (some (h, (hI h a13 1))))
def f_X2_add (h : hp) (o : Nat) (p0 : Int32) : Option (hp × Int32) := (ckO 1 h o 4
 (ckO 1 h o 4
 (ckA 1 h (o + 1) 0
 (if (hI h o 1) < (Int32.ofNat (alen h (o + 1))) then
 (ckO 1 h o 4
 (ckO 1 h o 4
 (ckA 1 h (o + 1) 0
 (chk (hI h o 1) (alen h (o + 1))
 (nm (tI h (o + 1) ((hI h o 1)).toNatClampNeg p0) fun h9 =>
 (ckO 1 h9 o 4
 (ckO 1 h9 o 4
 (nm (sI h9 o 1 ((hI h9 o 1) + (1 : Int32))) fun h12 =>
 (f_X2_add_32 h12 o)))))))))
 else
 (f_X2_add_32 h o)))))
set_option maxRecDepth 100000 in
set_option maxHeartbeats 4000000 in
theorem k_X2_add_32 {ω : XO} (hω : ω.2.2.2.1 = 1) {κ : XK} (X : XC ω rm_X2_add 2 κ cX2_add "SignalBlind$Row") {L : List Nat} {q : Nat → Nat} {h' : hp} {r : Int32} (R : XRet ω rm_X2_add κ (some .int) L q h' (some (.int r))) : ∀ (h : hp) (a13 : Nat), f_X2_add_32 h a13 = some (h', r) → XG ω rm_X2_add 2 κ L q h 0 0 32 [(0, .ref (q a13))] [] := by
  intro h a13 hf
  unfold f_X2_add_32 at hf
  refine x_aload_n X dX2_add_32 0 rfl rfl ?_
  obtain ⟨b14, hf⟩ := ckO_some hf
  refine x_geti X (i := a13) fl_X2_7_3 (sd_of hω b14.1) b14.2 rfl dX2_add_33 ?_
  exact x_retSI X R hf dX2_add_36
set_option maxRecDepth 100000 in
set_option maxHeartbeats 4000000 in
theorem k_X2_add {ω : XO} (hω : ω.2.2.2.1 = 1) {L : List Nat} {q : Nat → Nat} {h h' : hp} {o : Nat} {p0 : Int32} {r : Int32} (hf : f_X2_add h o p0 = some (h', r)) : XM ω yX2_add cX2_add 2 (some .int) rm_X2_add L q h [.ref (q o), .int p0] (some (.int r)) h' := by
  refine XM_intro [(0, .ref (q o)), (1, .int p0)] "SignalBlind$Row" (by decide) rfl rfl (Nat.le_of_ble_eq_true rfl) (fun κ X R => ?_)
  unfold f_X2_add at hf
  refine x_aload_n X dX2_add_0 0 rfl rfl ?_
  obtain ⟨b1, hf⟩ := ckO_some hf
  refine x_geti X (i := o) fl_X2_7_3 (sd_of hω b1.1) b1.2 rfl dX2_add_1 ?_
  refine x_aload_n X dX2_add_4 0 rfl rfl ?_
  obtain ⟨b2, hf⟩ := ckO_some hf
  refine x_getsj X (i := o) 1 fl_X2_13_3 (sd_of hω b2.1) b2.2 rfl (j := (o + 1)) rfl dX2_add_5 ?_
  obtain ⟨b3, hf⟩ := ckA_some hf
  refine x_alen X (i := (o + 1)) (n := (alen h (o + 1))) (e := 0) (by decide) (sd_of hω b3.1) b3.2 rfl dX2_add_8 ?_
  refine x_icmp_ge X 32 dX2_add_9 (by decide) (fun c4 => ?_) (fun c4 => ?_)
  · replace hf := (if_pos c4).symm.trans hf
    refine x_aload_n X dX2_add_12 0 rfl rfl ?_
    obtain ⟨b5, hf⟩ := ckO_some hf
    refine x_getsj X (i := o) 1 fl_X2_13_3 (sd_of hω b5.1) b5.2 rfl (j := (o + 1)) rfl dX2_add_13 ?_
    refine x_aload_n X dX2_add_16 0 rfl rfl ?_
    obtain ⟨b6, hf⟩ := ckO_some hf
    refine x_geti X (i := o) fl_X2_7_3 (sd_of hω b6.1) b6.2 rfl dX2_add_17 ?_
    refine x_iload_n X dX2_add_20 1 rfl rfl ?_
    obtain ⟨b7, hf⟩ := ckA_some hf
    obtain ⟨z8, hf⟩ := chk_some hf
    refine x_iast X (i := (o + 1)) (n := (alen h (o + 1))) (sd_of hω b7.1) b7.2 z8 dX2_add_21 ?_
    obtain ⟨h9, eh9, hf⟩ := nm_some hf
    refine x_nmh eh9 ?_
    refine x_aload_n X dX2_add_22 0 rfl rfl ?_
    refine x_dup X dX2_add_23 rfl ?_
    obtain ⟨b10, hf⟩ := ckO_some hf
    refine x_geti X (i := o) fl_X2_7_3 (sd_of hω b10.1) b10.2 rfl dX2_add_24 ?_
    refine x_iconst X (v := 1) dX2_add_27 (by decide) ?_
    refine x_iadd X dX2_add_28 ?_
    obtain ⟨b11, hf⟩ := ckO_some hf
    refine x_puti X (i := o) fl_X2_7_3 fw_3 (sd_of hω b11.1) b11.2 rfl rfl rfl rfl dX2_add_29 ?_
    obtain ⟨h12, eh12, hf⟩ := nm_some hf
    refine x_nmh eh12 ?_
    refine x_lv [0] rfl ?_
    exact k_X2_add_32 hω X R h12 _ hf
  · replace hf := (if_neg c4).symm.trans hf
    refine x_lv [0] rfl ?_
    exact k_X2_add_32 hω X R h _ hf
theorem mt_X2_add : MT yX2_add cX2_add 2 (some .int) "SignalBlind$Row" 1 := ⟨(mT_1 239 rfl rfl), (mT_2 0 rfl rfl), (mT_1 3 rfl rfl), (mT_2 1 rfl rfl), by decide⟩
theorem c_X2_17 {ω : XO} {rm : Room} {nL : Nat} {κ : XK} {cc : ByteArray} (X : XC ω rm nL κ cc "SignalBlind$Row") (hω : ω.2.2.2.1 = 1) {L : List Nat} {q : Nat → Nat} {h h' : hp} {cells slots pc : Nat} {lv : List (Nat × Value)} {rest : List Value} {o : Nat} {p0 : Int32} {r : Int32} (hf : f_X2_add h o p0 = some (h', r)) (hs : sd ω.2.2.2.1 o = true) (hk : kdOf h o = 3 + 1) (hR : rm_X2_add.frames + 1 ≤ rm.frames ∧ 8 + (2 + 11) + rm_X2_add.locals ≤ rm.locals) (hcs : cells ≤ rm.cells ∧ slots ≤ rm.slots) (hroom : (rest.map fun v => v.category).sum ≤ 8) (hd : decode cc pc = .ok (.invokevirtual 17, 3)) (kk : XG ω rm nL κ L q h' cells slots (pc + 3) lv (.int r :: rest)) : XG ω rm nL κ L q h cells slots pc lv (.int p0 :: .ref (q o) :: rest) := x_callV X [.int p0] rest (k_X2_add hω hf) mt_X2_add (mT_4 40 rfl rfl) hR ⟨rfl, rfl⟩ hcs hs hk (by decide) rfl rfl hroom hd kk
theorem c_X11_84 {ω : XO} {rm : Room} {nL : Nat} {κ : XK} {cc : ByteArray} (X : XC ω rm nL κ cc "SignalBlind") (hω : ω.2.2.2.1 = 1) {L : List Nat} {q : Nat → Nat} {h h' : hp} {cells slots pc : Nat} {lv : List (Nat × Value)} {rest : List Value} {o : Nat} {p0 : Int32} {r : Int32} (hf : f_X2_add h o p0 = some (h', r)) (hs : sd ω.2.2.2.1 o = true) (hk : kdOf h o = 3 + 1) (hR : rm_X2_add.frames + 1 ≤ rm.frames ∧ 8 + (2 + 11) + rm_X2_add.locals ≤ rm.locals) (hcs : cells ≤ rm.cells ∧ slots ≤ rm.slots) (hroom : (rest.map fun v => v.category).sum ≤ 8) (hd : decode cc pc = .ok (.invokevirtual 84, 3)) (kk : XG ω rm nL κ L q h' cells slots (pc + 3) lv (.int r :: rest)) : XG ω rm nL κ L q h cells slots pc lv (.int p0 :: .ref (q o) :: rest) := x_callV X [.int p0] rest (k_X2_add hω hf) mt_X2_add (mT_1 238 rfl rfl) hR ⟨rfl, rfl⟩ hcs hs hk (by decide) rfl rfl hroom hd kk

abbrev rm_X2_get : Room := { frames := 0, cells := 0, slots := 0, locals := 0 }
def f_X2_get_22 (h : hp) (a2 : Int32) : Option Int32 := (some a2)
def f_X2_get_21 (h : hp) : Option Int32 := (f_X2_get_22 h (0 : Int32))
def f_X2_get (h : hp) (o : Nat) (p0 : Int32) : Option Int32 := (if p0 < 0 then
 (f_X2_get_21 h)
 else
 (ckO 1 h o 4
 (if p0 < (hI h o 1) then
 (ckO 1 h o 4
 (ckA 1 h (o + 1) 0
 (chk p0 (alen h (o + 1))
 (f_X2_get_22 h (aI h (o + 1) (p0).toNatClampNeg)))))
 else
 (f_X2_get_21 h))))
set_option maxRecDepth 100000 in
set_option maxHeartbeats 4000000 in
theorem k_X2_get_22 {ω : XO} (hω : ω.2.2.2.1 = 1) {κ : XK} (X : XC ω rm_X2_get 2 κ cX2_get "SignalBlind$Row") {L : List Nat} {q : Nat → Nat} {h : hp} {r : Int32} (R : XRet ω rm_X2_get κ (some .int) L q h (some (.int r))) : ∀ (a2 : Int32), f_X2_get_22 h a2 = some r → XG ω rm_X2_get 2 κ L q h 0 0 22 [] [.int a2] := by
  intro a2 hf
  unfold f_X2_get_22 at hf
  exact x_retRI X R hf dX2_get_22
set_option maxRecDepth 100000 in
set_option maxHeartbeats 4000000 in
theorem k_X2_get_21 {ω : XO} (hω : ω.2.2.2.1 = 1) {κ : XK} (X : XC ω rm_X2_get 2 κ cX2_get "SignalBlind$Row") {L : List Nat} {q : Nat → Nat} {h : hp} {r : Int32} (R : XRet ω rm_X2_get κ (some .int) L q h (some (.int r))) : f_X2_get_21 h = some r → XG ω rm_X2_get 2 κ L q h 0 0 21 [] [] := by
  intro  hf
  unfold f_X2_get_21 at hf
  refine x_iconst X (v := 0) dX2_get_21 (by decide) ?_
  refine x_lv [] rfl ?_
  exact k_X2_get_22 hω X R _ hf
set_option maxRecDepth 100000 in
set_option maxHeartbeats 4000000 in
theorem k_X2_get {ω : XO} (hω : ω.2.2.2.1 = 1) {L : List Nat} {q : Nat → Nat} {h : hp} {o : Nat} {p0 : Int32} {r : Int32} (hf : f_X2_get h o p0 = some r) : XM ω yX2_get cX2_get 2 (some .int) rm_X2_get L q h [.ref (q o), .int p0] (some (.int r)) h := by
  refine XM_intro [(0, .ref (q o)), (1, .int p0)] "SignalBlind$Row" (by decide) rfl rfl (Nat.le_of_ble_eq_true rfl) (fun κ X R => ?_)
  unfold f_X2_get at hf
  refine x_iload_n X dX2_get_0 1 rfl rfl ?_
  refine x_if_lt X 21 dX2_get_1 (by decide) (fun c1 => ?_) (fun c1 => ?_)
  · replace hf := (if_pos c1).symm.trans hf
    refine x_lv [] rfl ?_
    exact k_X2_get_21 hω X R  hf
  · replace hf := (if_neg c1).symm.trans hf
    refine x_iload_n X dX2_get_4 1 rfl rfl ?_
    refine x_aload_n X dX2_get_5 0 rfl rfl ?_
    obtain ⟨b3, hf⟩ := ckO_some hf
    refine x_geti X (i := o) fl_X2_7_3 (sd_of hω b3.1) b3.2 rfl dX2_get_6 ?_
    refine x_icmp_ge X 21 dX2_get_9 (by decide) (fun c4 => ?_) (fun c4 => ?_)
    · replace hf := (if_pos c4).symm.trans hf
      refine x_aload_n X dX2_get_12 0 rfl rfl ?_
      obtain ⟨b5, hf⟩ := ckO_some hf
      refine x_getsj X (i := o) 1 fl_X2_13_3 (sd_of hω b5.1) b5.2 rfl (j := (o + 1)) rfl dX2_get_13 ?_
      refine x_iload_n X dX2_get_16 1 rfl rfl ?_
      obtain ⟨b6, hf⟩ := ckA_some hf
      obtain ⟨z7, hf⟩ := chk_some hf
      refine x_iald X (i := (o + 1)) (n := (alen h (o + 1))) (sd_of hω b6.1) b6.2 z7 dX2_get_17 ?_
      refine x_goto X 22 dX2_get_18 (by decide) ?_
      refine x_lv [] rfl ?_
      exact k_X2_get_22 hω X R _ hf
    · replace hf := (if_neg c4).symm.trans hf
      refine x_lv [] rfl ?_
      exact k_X2_get_21 hω X R  hf
theorem mt_X2_get : MT yX2_get cX2_get 2 (some .int) "SignalBlind$Row" 1 := ⟨(mT_2 11 rfl rfl), (mT_2 12 rfl rfl), (mT_1 3 rfl rfl), (mT_2 13 rfl rfl), by decide⟩
theorem c_X11_91 {ω : XO} {rm : Room} {nL : Nat} {κ : XK} {cc : ByteArray} (X : XC ω rm nL κ cc "SignalBlind") (hω : ω.2.2.2.1 = 1) {L : List Nat} {q : Nat → Nat} {h : hp} {cells slots pc : Nat} {lv : List (Nat × Value)} {rest : List Value} {o : Nat} {p0 : Int32} {r : Int32} (hf : f_X2_get h o p0 = some r) (hs : sd ω.2.2.2.1 o = true) (hk : kdOf h o = 3 + 1) (hR : rm_X2_get.frames + 1 ≤ rm.frames ∧ 8 + (2 + 11) + rm_X2_get.locals ≤ rm.locals) (hcs : cells ≤ rm.cells ∧ slots ≤ rm.slots) (hroom : (rest.map fun v => v.category).sum ≤ 8) (hd : decode cc pc = .ok (.invokevirtual 91, 3)) (kk : XG ω rm nL κ L q h cells slots (pc + 3) lv (.int r :: rest)) : XG ω rm nL κ L q h cells slots pc lv (.int p0 :: .ref (q o) :: rest) := x_callV X [.int p0] rest (k_X2_get hω hf) mt_X2_get (mT_2 10 rfl rfl) hR ⟨rfl, rfl⟩ hcs hs hk (by decide) rfl rfl hroom hd kk

abbrev rm_X2_set : Room := { frames := 0, cells := 0, slots := 0, locals := 0 }
def f_X2_set_19 (h : hp) : Option (hp × Unit) := (some (h, ()))
def f_X2_set (h : hp) (o : Nat) (p0 : Int32) (p1 : Int32) : Option (hp × Unit) := (if p0 < 0 then
 (f_X2_set_19 h)
 else
 (ckO 1 h o 4
 (if p0 < (hI h o 1) then
 (ckO 1 h o 4
 (ckA 1 h (o + 1) 0
 (chk p0 (alen h (o + 1))
 (nm (tI h (o + 1) (p0).toNatClampNeg p1) fun h7 =>
 (f_X2_set_19 h7)))))
 else
 (f_X2_set_19 h))))
set_option maxRecDepth 100000 in
set_option maxHeartbeats 4000000 in
theorem k_X2_set_19 {ω : XO} (hω : ω.2.2.2.1 = 1) {κ : XK} (X : XC ω rm_X2_set 3 κ cX2_set "SignalBlind$Row") {L : List Nat} {q : Nat → Nat} {h' : hp} {r : Unit} (R : XRet ω rm_X2_set κ none L q h' none) : ∀ (h : hp), f_X2_set_19 h = some (h', r) → XG ω rm_X2_set 3 κ L q h 0 0 19 [] [] := by
  intro h hf
  unfold f_X2_set_19 at hf
  exact x_retV X R hf dX2_set_19
set_option maxRecDepth 100000 in
set_option maxHeartbeats 4000000 in
theorem k_X2_set {ω : XO} (hω : ω.2.2.2.1 = 1) {L : List Nat} {q : Nat → Nat} {h h' : hp} {o : Nat} {p0 : Int32} {p1 : Int32} {r : Unit} (hf : f_X2_set h o p0 p1 = some (h', r)) : XM ω yX2_set cX2_set 3 none rm_X2_set L q h [.ref (q o), .int p0, .int p1] none h' := by
  refine XM_intro [(0, .ref (q o)), (1, .int p0), (2, .int p1)] "SignalBlind$Row" (by decide) rfl rfl (Nat.le_of_ble_eq_true rfl) (fun κ X R => ?_)
  unfold f_X2_set at hf
  refine x_iload_n X dX2_set_0 1 rfl rfl ?_
  refine x_if_lt X 19 dX2_set_1 (by decide) (fun c1 => ?_) (fun c1 => ?_)
  · replace hf := (if_pos c1).symm.trans hf
    refine x_lv [] rfl ?_
    exact k_X2_set_19 hω X R h hf
  · replace hf := (if_neg c1).symm.trans hf
    refine x_iload_n X dX2_set_4 1 rfl rfl ?_
    refine x_aload_n X dX2_set_5 0 rfl rfl ?_
    obtain ⟨b2, hf⟩ := ckO_some hf
    refine x_geti X (i := o) fl_X2_7_3 (sd_of hω b2.1) b2.2 rfl dX2_set_6 ?_
    refine x_icmp_ge X 19 dX2_set_9 (by decide) (fun c3 => ?_) (fun c3 => ?_)
    · replace hf := (if_pos c3).symm.trans hf
      refine x_aload_n X dX2_set_12 0 rfl rfl ?_
      obtain ⟨b4, hf⟩ := ckO_some hf
      refine x_getsj X (i := o) 1 fl_X2_13_3 (sd_of hω b4.1) b4.2 rfl (j := (o + 1)) rfl dX2_set_13 ?_
      refine x_iload_n X dX2_set_16 1 rfl rfl ?_
      refine x_iload_n X dX2_set_17 2 rfl rfl ?_
      obtain ⟨b5, hf⟩ := ckA_some hf
      obtain ⟨z6, hf⟩ := chk_some hf
      refine x_iast X (i := (o + 1)) (n := (alen h (o + 1))) (sd_of hω b5.1) b5.2 z6 dX2_set_18 ?_
      obtain ⟨h7, eh7, hf⟩ := nm_some hf
      refine x_nmh eh7 ?_
      refine x_lv [] rfl ?_
      exact k_X2_set_19 hω X R h7 hf
    · replace hf := (if_neg c3).symm.trans hf
      refine x_lv [] rfl ?_
      exact k_X2_set_19 hω X R h hf
theorem mt_X2_set : MT yX2_set cX2_set 3 none "SignalBlind$Row" 2 := ⟨(mT_2 15 rfl rfl), (mT_2 16 rfl rfl), (mT_1 3 rfl rfl), (mT_2 17 rfl rfl), by decide⟩
theorem c_X11_94 {ω : XO} {rm : Room} {nL : Nat} {κ : XK} {cc : ByteArray} (X : XC ω rm nL κ cc "SignalBlind") (hω : ω.2.2.2.1 = 1) {L : List Nat} {q : Nat → Nat} {h h' : hp} {cells slots pc : Nat} {lv : List (Nat × Value)} {rest : List Value} {o : Nat} {p0 : Int32} {p1 : Int32} {r : Unit} (hf : f_X2_set h o p0 p1 = some (h', r)) (hs : sd ω.2.2.2.1 o = true) (hk : kdOf h o = 3 + 1) (hR : rm_X2_set.frames + 1 ≤ rm.frames ∧ 8 + (3 + 11) + rm_X2_set.locals ≤ rm.locals) (hcs : cells ≤ rm.cells ∧ slots ≤ rm.slots) (hroom : (rest.map fun v => v.category).sum ≤ 8) (hd : decode cc pc = .ok (.invokevirtual 94, 3)) (kk : XG ω rm nL κ L q h' cells slots (pc + 3) lv (rest)) : XG ω rm nL κ L q h cells slots pc lv (.int p1 :: .int p0 :: .ref (q o) :: rest) := x_callV X [.int p0, .int p1] rest (k_X2_set hω hf) mt_X2_set (mT_2 14 rfl rfl) hR ⟨rfl, rfl⟩ hcs hs hk (by decide) rfl rfl hroom hd kk
