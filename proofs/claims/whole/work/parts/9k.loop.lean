-- ===== the law: its loop =====
set_option maxHeartbeats 8000000 in
theorem law_loop {p : Program} {l : Launch} {e : Env} {s : State} {m : MethodId} {below : List Frame} {meth : Method} {c : Code} {b : Nat} {D : va_G} {E : Nat → ClassId} {ζ : XZ} (X : XC (l, D, E, 1, ζ) room_1 4 (p, e, s, m, #[Value.ref b], below, meth, c, lw_Z below #[Value.ref b] s, fun a => s.heap.size ≤ a) code RL) (hr : meth.sig.returnType = ret) {L : Nat} (hL : L ≤ 3072) {xs : Nat → Int32} (hX : va_X b L xs s s.heap) (hbl : b < s.heap.size) {a1 a2 : Nat} : ∀ (n i : Nat) (hx hm : hp) (cells slots : Nat) (H : Heap) (locs : List Loc) (la : Array Slot), Sim hx hm → L < i + 6 * n + 6 → i ≤ 4000 → cells + 5 * n ≤ 619789 → slots + 139 * n ≤ 7242880 → LW D E (fun a => s.heap.size ≤ a) a1 a2 hx hm H → va_S (fun a => s.heap.size ≤ a) s.heap H locs → lv_has la 4 [(3, .int (nI i)), (2, .ref a2), (1, .ref a1), (0, .ref b)] → W p l e room_1 s m #[Value.ref b] below meth c H locs cells slots (lw_Z below #[Value.ref b] s) (F0 m 18 la []) := by
  intro n
  induction n with
  | zero =>
    intro i hx hm cells slots H locs la hsim h1 h2 h3 h4 hw hS hl
    refine lv_iload_n X.1 X.2.1 dL_law_18 rfl (lv_at hl 0 rfl) ?_
    refine lv_aload_n X.1 X.2.1 dL_law_19 rfl (lv_at hl 3 rfl) ?_
    refine va_slen X.1 X.2.1 hX hbl (Nat.not_le.mpr hbl) hS dL_law_20 ?_
    refine lv_bipush (v := 6) X.1 X.2.1 dL_law_21 (by decide) ?_
    refine lv_isub X.1 X.2.1 dL_law_23 ?_
    refine lv_icmp_gt (tgt := 1376) X.1 X.2.1 dL_law_24 (by decide) (fun _ => ?_) (fun hne => ?_)
    · exact law_exit X hr (by omega) (by omega) hS
    · refine absurd (Int32.lt_iff_toInt_lt.mpr ?_) hne
      rw [show (Int32.ofNat L - 6 : Int32).toInt = (L : Int) - 6 from pk_sub_toInt (a := L) (b := 6) (by omega) (by decide), nI_toInt (by omega)]
      omega
  | succ n ih =>
    intro i hx hm cells slots H locs la hsim h1 h2 h3 h4 hw hS hl
    refine lv_iload_n X.1 X.2.1 dL_law_18 rfl (lv_at hl 0 rfl) ?_
    refine lv_aload_n X.1 X.2.1 dL_law_19 rfl (lv_at hl 3 rfl) ?_
    refine va_slen X.1 X.2.1 hX hbl (Nat.not_le.mpr hbl) hS dL_law_20 ?_
    refine lv_bipush (v := 6) X.1 X.2.1 dL_law_21 (by decide) ?_
    refine lv_isub X.1 X.2.1 dL_law_23 ?_
    refine lv_icmp_gt (tgt := 1376) X.1 X.2.1 dL_law_24 (by decide) (fun _ => ?_) (fun hne => ?_)
    · exact law_exit X hr (by omega) (by omega) hS
    · have hi : i + 6 ≤ L := by
        refine Nat.le_of_not_lt (fun hc => hne (Int32.lt_iff_toInt_lt.mpr ?_))
        rw [show (Int32.ofNat L - 6 : Int32).toInt = (L : Int) - 6 from pk_sub_toInt (a := L) (b := 6) (by omega) (by decide), nI_toInt (by omega)]
        omega
      have gg : ∀ k, k < 6 → vp_in (nI i + nI k) L := fun k hk => by rw [nI_add]; exact vp_in_nI (by omega) (by omega)
      have g0 : vp_in (nI i) L := vp_in_nI (by omega) (by omega)
      refine lv_aload_n X.1 X.2.1 dL_law_27 rfl (lv_at hl 3 rfl) ?_
      refine lv_iload_n X.1 X.2.1 dL_law_28 rfl (lv_at hl 0 rfl) ?_
      refine va_sld X.1 X.2.1 hX hbl (Nat.not_le.mpr hbl) hS g0 dL_law_29 ?_
      refine lv_bipush (v := 63) X.1 X.2.1 dL_law_30 (by decide) ?_
      refine lv_iand X.1 X.2.1 dL_law_32 ?_
      obtain ⟨j, hj, ej⟩ := pk_andE (xs (nI i).toNatClampNeg) (m := 63) 6 (by decide)
      rw [ej]
      have K : ∀ (H : Heap) (locs : List Loc) (hx hm : hp), Sim hx hm → LW D E (fun a => s.heap.size ≤ a) a1 a2 hx hm H → va_S (fun a => s.heap.size ≤ a) s.heap H locs → W p l e room_1 s m #[Value.ref b] below meth c H locs (cells + 5) (slots + 139) (lw_Z below #[Value.ref b] s) (F0 m 1370 la []) := by
        intro H locs hx hm hsim hw hS
        refine lv_iinc (v := nI (i + 6)) (lv' := [(3, .int (nI (i + 6))), (2, .ref a2), (1, .ref a1), (0, .ref b)]) X.1 X.2.1 dL_law_1370 hl (k := 0) rfl (nI_add i 6) (by decide) rfl (fun la hl => ?_)
        refine lv_goto (tgt := 18) X.1 X.2.1 dL_law_1373 (by decide) ?_
        exact ih (i + 6) hx hm (cells + 5) (slots + 139) H locs la hsim (by omega) (by omega) (by omega) (by omega) hw hS hl
      have hC : cells + 5 ≤ 619789 := by omega
      have hSl : slots + 139 ≤ 7242880 := by omega
      by_cases j0 : j = 0
      · subst j0
        exact lv_tableIn (off := 163) (tgt := 196) X.1 X.2.1 dL_law_33 (by decide) (by decide) (by decide) (by decide) (law_w0 X hX hbl hsim (gg 1 (by decide)) (gg 2 (by decide)) (gg 3 (by decide)) (gg 4 (by decide)) (gg 5 (by decide)) hC hSl hw hS hl K)
      by_cases j1 : j = 1
      · subst j1
        exact lv_tableIn (off := 186) (tgt := 219) X.1 X.2.1 dL_law_33 (by decide) (by decide) (by decide) (by decide) (law_w1 X hX hbl hsim (gg 1 (by decide)) (gg 2 (by decide)) (gg 3 (by decide)) (gg 4 (by decide)) (gg 5 (by decide)) hC hSl hw hS hl K)
      by_cases j2 : j = 2
      · subst j2
        exact lv_tableIn (off := 219) (tgt := 252) X.1 X.2.1 dL_law_33 (by decide) (by decide) (by decide) (by decide) (law_w2 X hX hbl hsim (gg 1 (by decide)) (gg 2 (by decide)) (gg 3 (by decide)) (gg 4 (by decide)) (gg 5 (by decide)) hC hSl hw hS hl K)
      by_cases j3 : j = 3
      · subst j3
        exact lv_tableIn (off := 252) (tgt := 285) X.1 X.2.1 dL_law_33 (by decide) (by decide) (by decide) (by decide) (law_w3 X hX hbl hsim (gg 1 (by decide)) (gg 2 (by decide)) (gg 3 (by decide)) (gg 4 (by decide)) (gg 5 (by decide)) hC hSl hw hS hl K)
      by_cases j4 : j = 4
      · subst j4
        exact lv_tableIn (off := 285) (tgt := 318) X.1 X.2.1 dL_law_33 (by decide) (by decide) (by decide) (by decide) (law_w4 X hX hbl hsim (gg 1 (by decide)) (gg 2 (by decide)) (gg 3 (by decide)) (gg 4 (by decide)) (gg 5 (by decide)) hC hSl hw hS hl K)
      by_cases j5 : j = 5
      · subst j5
        exact lv_tableIn (off := 318) (tgt := 351) X.1 X.2.1 dL_law_33 (by decide) (by decide) (by decide) (by decide) (law_w5 X hX hbl hsim (gg 1 (by decide)) (gg 2 (by decide)) (gg 3 (by decide)) (gg 4 (by decide)) (gg 5 (by decide)) hC hSl hw hS hl K)
      by_cases j6 : j = 6
      · subst j6
        exact lv_tableIn (off := 341) (tgt := 374) X.1 X.2.1 dL_law_33 (by decide) (by decide) (by decide) (by decide) (law_w6 X hX hbl hsim (gg 1 (by decide)) (gg 2 (by decide)) (gg 3 (by decide)) (gg 4 (by decide)) (gg 5 (by decide)) hC hSl hw hS hl K)
      by_cases j7 : j = 7
      · subst j7
        exact lv_tableIn (off := 374) (tgt := 407) X.1 X.2.1 dL_law_33 (by decide) (by decide) (by decide) (by decide) (law_w7 X hX hbl hsim (gg 1 (by decide)) (gg 2 (by decide)) (gg 3 (by decide)) (gg 4 (by decide)) (gg 5 (by decide)) hC hSl hw hS hl K)
      by_cases j8 : j = 8
      · subst j8
        exact lv_tableIn (off := 417) (tgt := 450) X.1 X.2.1 dL_law_33 (by decide) (by decide) (by decide) (by decide) (law_w8 X hX hbl hsim (gg 1 (by decide)) (gg 2 (by decide)) (gg 3 (by decide)) (gg 4 (by decide)) (gg 5 (by decide)) hC hSl hw hS hl K)
      by_cases j9 : j = 9
      · subst j9
        exact lv_tableIn (off := 440) (tgt := 473) X.1 X.2.1 dL_law_33 (by decide) (by decide) (by decide) (by decide) (law_w9 X hX hbl hsim (gg 1 (by decide)) (gg 2 (by decide)) (gg 3 (by decide)) (gg 4 (by decide)) (gg 5 (by decide)) hC hSl hw hS hl K)
      by_cases j10 : j = 10
      · subst j10
        exact lv_tableIn (off := 453) (tgt := 486) X.1 X.2.1 dL_law_33 (by decide) (by decide) (by decide) (by decide) (law_w10 X hX hbl hsim (gg 1 (by decide)) (gg 2 (by decide)) (gg 3 (by decide)) (gg 4 (by decide)) (gg 5 (by decide)) hC hSl hw hS hl K)
      by_cases j11 : j = 11
      · subst j11
        exact lv_tableIn (off := 476) (tgt := 509) X.1 X.2.1 dL_law_33 (by decide) (by decide) (by decide) (by decide) (law_w11 X hX hbl hsim (gg 1 (by decide)) (gg 2 (by decide)) (gg 3 (by decide)) (gg 4 (by decide)) (gg 5 (by decide)) hC hSl hw hS hl K)
      by_cases j12 : j = 12
      · subst j12
        exact lv_tableIn (off := 499) (tgt := 532) X.1 X.2.1 dL_law_33 (by decide) (by decide) (by decide) (by decide) (law_w12 X hX hbl hsim (gg 1 (by decide)) (gg 2 (by decide)) (gg 3 (by decide)) (gg 4 (by decide)) (gg 5 (by decide)) hC hSl hw hS hl K)
      by_cases j13 : j = 13
      · subst j13
        exact lv_tableIn (off := 542) (tgt := 575) X.1 X.2.1 dL_law_33 (by decide) (by decide) (by decide) (by decide) (law_w13 X hX hbl hsim (gg 1 (by decide)) (gg 2 (by decide)) (gg 3 (by decide)) (gg 4 (by decide)) (gg 5 (by decide)) hC hSl hw hS hl K)
      by_cases j14 : j = 14
      · subst j14
        exact lv_tableIn (off := 575) (tgt := 608) X.1 X.2.1 dL_law_33 (by decide) (by decide) (by decide) (by decide) (law_w14 X hX hbl hsim (gg 1 (by decide)) (gg 2 (by decide)) (gg 3 (by decide)) (gg 4 (by decide)) (gg 5 (by decide)) hC hSl hw hS hl K)
      by_cases j15 : j = 15
      · subst j15
        exact lv_tableIn (off := 608) (tgt := 641) X.1 X.2.1 dL_law_33 (by decide) (by decide) (by decide) (by decide) (law_w15 X hX hbl hsim (gg 1 (by decide)) (gg 2 (by decide)) (gg 3 (by decide)) (gg 4 (by decide)) (gg 5 (by decide)) hC hSl hw hS hl K)
      by_cases j16 : j = 16
      · subst j16
        exact lv_tableIn (off := 641) (tgt := 674) X.1 X.2.1 dL_law_33 (by decide) (by decide) (by decide) (by decide) (law_w16 X hX hbl hsim (gg 1 (by decide)) (gg 2 (by decide)) (gg 3 (by decide)) (gg 4 (by decide)) (gg 5 (by decide)) hC hSl hw hS hl K)
      by_cases j17 : j = 17
      · subst j17
        exact lv_tableIn (off := 674) (tgt := 707) X.1 X.2.1 dL_law_33 (by decide) (by decide) (by decide) (by decide) (law_w17 X hX hbl hsim (gg 1 (by decide)) (gg 2 (by decide)) (gg 3 (by decide)) (gg 4 (by decide)) (gg 5 (by decide)) hC hSl hw hS hl K)
      by_cases j18 : j = 18
      · subst j18
        exact lv_tableIn (off := 707) (tgt := 740) X.1 X.2.1 dL_law_33 (by decide) (by decide) (by decide) (by decide) (law_w18 X hX hbl hsim (gg 1 (by decide)) (gg 2 (by decide)) (gg 3 (by decide)) (gg 4 (by decide)) (gg 5 (by decide)) hC hSl hw hS hl K)
      by_cases j19 : j = 19
      · subst j19
        exact lv_tableIn (off := 740) (tgt := 773) X.1 X.2.1 dL_law_33 (by decide) (by decide) (by decide) (by decide) (law_w19 X hX hbl hsim (gg 1 (by decide)) (gg 2 (by decide)) (gg 3 (by decide)) (gg 4 (by decide)) (gg 5 (by decide)) hC hSl hw hS hl K)
      by_cases j20 : j = 20
      · subst j20
        exact lv_tableIn (off := 773) (tgt := 806) X.1 X.2.1 dL_law_33 (by decide) (by decide) (by decide) (by decide) (law_w20 X hX hbl hsim (gg 1 (by decide)) (gg 2 (by decide)) (gg 3 (by decide)) (gg 4 (by decide)) (gg 5 (by decide)) hC hSl hw hS hl K)
      by_cases j21 : j = 21
      · subst j21
        exact lv_tableIn (off := 817) (tgt := 850) X.1 X.2.1 dL_law_33 (by decide) (by decide) (by decide) (by decide) (law_w21 X hX hbl hsim (gg 1 (by decide)) (gg 2 (by decide)) (gg 3 (by decide)) (gg 4 (by decide)) (gg 5 (by decide)) hC hSl hw hS hl K)
      by_cases j22 : j = 22
      · subst j22
        exact lv_tableIn (off := 841) (tgt := 874) X.1 X.2.1 dL_law_33 (by decide) (by decide) (by decide) (by decide) (law_w22 X hX hbl hsim (gg 1 (by decide)) (gg 2 (by decide)) (gg 3 (by decide)) (gg 4 (by decide)) (gg 5 (by decide)) hC hSl hw hS hl K)
      by_cases j23 : j = 23
      · subst j23
        exact lv_tableIn (off := 864) (tgt := 897) X.1 X.2.1 dL_law_33 (by decide) (by decide) (by decide) (by decide) (law_w23 X hX hbl hsim (gg 1 (by decide)) (gg 2 (by decide)) (gg 3 (by decide)) (gg 4 (by decide)) (gg 5 (by decide)) hC hSl hw hS hl K)
      by_cases j24 : j = 24
      · subst j24
        exact lv_tableIn (off := 897) (tgt := 930) X.1 X.2.1 dL_law_33 (by decide) (by decide) (by decide) (by decide) (law_w24 X hX hbl hsim (gg 1 (by decide)) (gg 2 (by decide)) (gg 3 (by decide)) (gg 4 (by decide)) (gg 5 (by decide)) hC hSl hw hS hl K)
      by_cases j25 : j = 25
      · subst j25
        exact lv_tableIn (off := 930) (tgt := 963) X.1 X.2.1 dL_law_33 (by decide) (by decide) (by decide) (by decide) (law_w25 X hX hbl hsim (gg 1 (by decide)) (gg 2 (by decide)) (gg 3 (by decide)) (gg 4 (by decide)) (gg 5 (by decide)) hC hSl hw hS hl K)
      by_cases j26 : j = 26
      · subst j26
        exact lv_tableIn (off := 943) (tgt := 976) X.1 X.2.1 dL_law_33 (by decide) (by decide) (by decide) (by decide) (law_w26 X hX hbl hsim (gg 1 (by decide)) (gg 2 (by decide)) (gg 3 (by decide)) (gg 4 (by decide)) (gg 5 (by decide)) hC hSl hw hS hl K)
      by_cases j27 : j = 27
      · subst j27
        exact lv_tableIn (off := 976) (tgt := 1009) X.1 X.2.1 dL_law_33 (by decide) (by decide) (by decide) (by decide) (law_w27 X hX hbl hsim (gg 1 (by decide)) (gg 2 (by decide)) (gg 3 (by decide)) (gg 4 (by decide)) (gg 5 (by decide)) hC hSl hw hS hl K)
      by_cases j28 : j = 28
      · subst j28
        exact lv_tableIn (off := 989) (tgt := 1022) X.1 X.2.1 dL_law_33 (by decide) (by decide) (by decide) (by decide) (law_w28 X hX hbl hsim (gg 1 (by decide)) (gg 2 (by decide)) (gg 3 (by decide)) (gg 4 (by decide)) (gg 5 (by decide)) hC hSl hw hS hl K)
      by_cases j29 : j = 29
      · subst j29
        exact lv_tableIn (off := 1002) (tgt := 1035) X.1 X.2.1 dL_law_33 (by decide) (by decide) (by decide) (by decide) (law_w29 X hX hbl hsim (gg 1 (by decide)) (gg 2 (by decide)) (gg 3 (by decide)) (gg 4 (by decide)) (gg 5 (by decide)) hC hSl hw hS hl K)
      by_cases j30 : j = 30
      · subst j30
        exact lv_tableIn (off := 1045) (tgt := 1078) X.1 X.2.1 dL_law_33 (by decide) (by decide) (by decide) (by decide) (law_w30 X hX hbl hsim (gg 1 (by decide)) (gg 2 (by decide)) (gg 3 (by decide)) (gg 4 (by decide)) (gg 5 (by decide)) hC hSl hw hS hl K)
      by_cases j31 : j = 31
      · subst j31
        exact lv_tableIn (off := 1068) (tgt := 1101) X.1 X.2.1 dL_law_33 (by decide) (by decide) (by decide) (by decide) (law_w31 X hX hbl hsim (gg 1 (by decide)) (gg 2 (by decide)) (gg 3 (by decide)) (gg 4 (by decide)) (gg 5 (by decide)) hC hSl hw hS hl K)
      by_cases j32 : j = 32
      · subst j32
        exact lv_tableIn (off := 1101) (tgt := 1134) X.1 X.2.1 dL_law_33 (by decide) (by decide) (by decide) (by decide) (law_w32 X hX hbl hsim (gg 1 (by decide)) (gg 2 (by decide)) (gg 3 (by decide)) (gg 4 (by decide)) (gg 5 (by decide)) hC hSl hw hS hl K)
      by_cases j33 : j = 33
      · subst j33
        exact lv_tableIn (off := 1124) (tgt := 1157) X.1 X.2.1 dL_law_33 (by decide) (by decide) (by decide) (by decide) (law_w33 X hX hbl hsim (gg 1 (by decide)) (gg 2 (by decide)) (gg 3 (by decide)) (gg 4 (by decide)) (gg 5 (by decide)) hC hSl hw hS hl K)
      by_cases j34 : j = 34
      · subst j34
        exact lv_tableIn (off := 1167) (tgt := 1200) X.1 X.2.1 dL_law_33 (by decide) (by decide) (by decide) (by decide) (law_w34 X hX hbl hsim (gg 1 (by decide)) (gg 2 (by decide)) (gg 3 (by decide)) (gg 4 (by decide)) (gg 5 (by decide)) hC hSl hw hS hl K)
      by_cases j35 : j = 35
      · subst j35
        exact lv_tableIn (off := 1240) (tgt := 1273) X.1 X.2.1 dL_law_33 (by decide) (by decide) (by decide) (by decide) (law_w35 X hX hbl hsim (gg 1 (by decide)) (gg 2 (by decide)) (gg 3 (by decide)) (gg 4 (by decide)) (gg 5 (by decide)) hC hSl hw hS hl K)
      by_cases j36 : j = 36
      · subst j36
        exact lv_tableIn (off := 1274) (tgt := 1307) X.1 X.2.1 dL_law_33 (by decide) (by decide) (by decide) (by decide) (law_w36 X hX hbl hsim (gg 1 (by decide)) (gg 2 (by decide)) (gg 3 (by decide)) (gg 4 (by decide)) (gg 5 (by decide)) hC hSl hw hS hl K)
      have hj2 : (36 : Int) < (nI j).toInt := by rw [nI_toInt (by omega)]; omega
      refine lv_tableOut (tgt := 1370) X.1 X.2.1 dL_law_33 (Or.inr hj2) (by decide) ?_
      refine W.widen (k := cells + 5) (n := slots + 139) (by omega) (by omega) ?_
      exact K _ _ _ _ hsim hw hS
