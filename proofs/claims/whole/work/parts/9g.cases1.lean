-- ===== the law: cases 8 to 15 =====
set_option maxHeartbeats 4000000 in
theorem law_w8 {p : Program} {l : Launch} {e : Env} {s : State} {m : MethodId} {below : List Frame} {meth : Method} {c : Code} {b : Nat} {D : va_G} {E : Nat → ClassId} {ζ : XZ} {Q : State → Prop} (X : XC (l, D, E, 1, ζ) room_1 4 (p, e, s, m, #[Value.ref b], below, meth, c, Q, fun a => s.heap.size ≤ a) code RL) {L : Nat} {xs : Nat → Int32} (hX : va_X b L xs s s.heap) (hbl : b < s.heap.size) {a1 a2 : Nat} {hx hm : hp} (hsim : Sim hx hm) {x3 : Int32} (g1 : vp_in (x3 + 1) L) (g2 : vp_in (x3 + 2) L) (g3 : vp_in (x3 + 3) L) (g4 : vp_in (x3 + 4) L) (g5 : vp_in (x3 + 5) L) {cells slots : Nat} (hC : cells + 5 ≤ 619789) (hSl : slots + 139 ≤ 7242880) {H : Heap} {locs : List Loc} {la : Array Slot} (hw : LW D E (fun a => s.heap.size ≤ a) a1 a2 hx hm H) (hS : va_S (fun a => s.heap.size ≤ a) s.heap H locs) (hl : lv_has la 4 [(3, .int x3), (2, .ref a2), (1, .ref a1), (0, .ref b)]) (K : ∀ (H : Heap) (locs : List Loc) (hx hm : hp), Sim hx hm → LW D E (fun a => s.heap.size ≤ a) a1 a2 hx hm H → va_S (fun a => s.heap.size ≤ a) s.heap H locs → W p l e room_1 s m #[Value.ref b] below meth c H locs (cells + 5) (slots + 139) Q (F0 m 1370 la [])) : W p l e room_1 s m #[Value.ref b] below meth c H locs cells slots Q (F0 m 450 la []) := by
  obtain ⟨hx', hm', r, f1, f2, hs'⟩ := s_feed hsim (xs (x3 + 1).toNatClampNeg)
  refine lv_aload_n X.1 X.2.1 dL_law_450 rfl (lv_at hl 2 rfl) ?_
  refine lv_aload_n X.1 X.2.1 dL_law_451 rfl (lv_at hl 3 rfl) ?_
  refine lv_iload_n X.1 X.2.1 dL_law_452 rfl (lv_at hl 0 rfl) ?_
  refine lv_iconst (v := 1) X.1 X.2.1 dL_law_453 (by decide) ?_
  refine lv_iadd X.1 X.2.1 dL_law_454 ?_
  refine va_sld X.1 X.2.1 hX hbl (Nat.not_le.mpr hbl) hS g1 dL_law_455 ?_
  refine lc_X X [.int (xs (x3 + 1).toNatClampNeg)] [] (r := .int r) (mc := 0) (ms := 0) (fun L q => k_X11_feed (ω := (l, D, E, 1, ζ)) rfl f1) mt_X11_feed (mT_2 228 rfl rfl) ⟨Nat.le_of_ble_eq_true rfl, Nat.le_of_ble_eq_true rfl⟩ rfl rfl (by omega) (Nat.le_of_ble_eq_true rfl) dL_law_456 hw hS hl (fun H locs hw hS => ?_)
  refine lv_aload_n X.1 X.2.1 dL_law_459 rfl (lv_at hl 1 rfl) ?_
  refine lv_aload_n X.1 X.2.1 dL_law_460 rfl (lv_at hl 3 rfl) ?_
  refine lv_iload_n X.1 X.2.1 dL_law_461 rfl (lv_at hl 0 rfl) ?_
  refine lv_iconst (v := 1) X.1 X.2.1 dL_law_462 (by decide) ?_
  refine lv_iadd X.1 X.2.1 dL_law_463 ?_
  refine va_sld X.1 X.2.1 hX hbl (Nat.not_le.mpr hbl) hS g1 dL_law_464 ?_
  refine lc_M X [.int (xs (x3 + 1).toNatClampNeg)] [.int r] (r := .int r) (fun L q => k_X12_feed (ω := (l, D, E, 0, ζ)) rfl f2) mt_X12_feed (mT_6 16 rfl rfl) ⟨Nat.le_of_ble_eq_true rfl, Nat.le_of_ble_eq_true rfl⟩ rfl rfl (by omega) (Nat.le_of_ble_eq_true rfl) dL_law_465 hw hS hl (fun H locs hw hS => ?_)
  refine lv_icmp_eq (tgt := 1370) X.1 X.2.1 dL_law_468 (by decide) (fun _ => ?_) (fun hne => absurd rfl hne)
  refine W.widen (k := cells + 5) (n := slots + 139) (by omega) (by omega) ?_
  exact K _ _ _ _ hs' hw hS
set_option maxHeartbeats 4000000 in
theorem law_w9 {p : Program} {l : Launch} {e : Env} {s : State} {m : MethodId} {below : List Frame} {meth : Method} {c : Code} {b : Nat} {D : va_G} {E : Nat → ClassId} {ζ : XZ} {Q : State → Prop} (X : XC (l, D, E, 1, ζ) room_1 4 (p, e, s, m, #[Value.ref b], below, meth, c, Q, fun a => s.heap.size ≤ a) code RL) {L : Nat} {xs : Nat → Int32} (hX : va_X b L xs s s.heap) (hbl : b < s.heap.size) {a1 a2 : Nat} {hx hm : hp} (hsim : Sim hx hm) {x3 : Int32} (g1 : vp_in (x3 + 1) L) (g2 : vp_in (x3 + 2) L) (g3 : vp_in (x3 + 3) L) (g4 : vp_in (x3 + 4) L) (g5 : vp_in (x3 + 5) L) {cells slots : Nat} (hC : cells + 5 ≤ 619789) (hSl : slots + 139 ≤ 7242880) {H : Heap} {locs : List Loc} {la : Array Slot} (hw : LW D E (fun a => s.heap.size ≤ a) a1 a2 hx hm H) (hS : va_S (fun a => s.heap.size ≤ a) s.heap H locs) (hl : lv_has la 4 [(3, .int x3), (2, .ref a2), (1, .ref a1), (0, .ref b)]) (K : ∀ (H : Heap) (locs : List Loc) (hx hm : hp), Sim hx hm → LW D E (fun a => s.heap.size ≤ a) a1 a2 hx hm H → va_S (fun a => s.heap.size ≤ a) s.heap H locs → W p l e room_1 s m #[Value.ref b] below meth c H locs (cells + 5) (slots + 139) Q (F0 m 1370 la [])) : W p l e room_1 s m #[Value.ref b] below meth c H locs cells slots Q (F0 m 473 la []) := by
  obtain ⟨hx', hm', r, f1, f2, hs'⟩ := s_ward hsim 
  refine lv_aload_n X.1 X.2.1 dL_law_473 rfl (lv_at hl 2 rfl) ?_
  refine lc_XN X [] [] (r := .int r) (mc := 5) (ms := 139) (fun L q => k_X11_ward (ω := (l, D, E, 1, ζ)) rfl f1) mt_X11_ward (mT_2 232 rfl rfl) ⟨Nat.le_of_ble_eq_true rfl, Nat.le_of_ble_eq_true rfl⟩ rfl rfl (by omega) (Nat.le_of_ble_eq_true rfl) dL_law_474 hw hS hl (fun H locs hw hS => ?_)
  refine lv_aload_n X.1 X.2.1 dL_law_477 rfl (lv_at hl 1 rfl) ?_
  refine lc_M X [] [.int r] (r := .int r) (fun L q => k_X12_ward (ω := (l, D, E, 0, ζ)) rfl f2) mt_X12_ward (mT_6 20 rfl rfl) ⟨Nat.le_of_ble_eq_true rfl, Nat.le_of_ble_eq_true rfl⟩ rfl rfl (by omega) (Nat.le_of_ble_eq_true rfl) dL_law_478 hw hS hl (fun H locs hw hS => ?_)
  refine lv_icmp_eq (tgt := 1370) X.1 X.2.1 dL_law_481 (by decide) (fun _ => ?_) (fun hne => absurd rfl hne)
  refine W.widen (k := cells + 5) (n := slots + 139) (by omega) (by omega) ?_
  exact K _ _ _ _ hs' hw hS
set_option maxHeartbeats 4000000 in
theorem law_w10 {p : Program} {l : Launch} {e : Env} {s : State} {m : MethodId} {below : List Frame} {meth : Method} {c : Code} {b : Nat} {D : va_G} {E : Nat → ClassId} {ζ : XZ} {Q : State → Prop} (X : XC (l, D, E, 1, ζ) room_1 4 (p, e, s, m, #[Value.ref b], below, meth, c, Q, fun a => s.heap.size ≤ a) code RL) {L : Nat} {xs : Nat → Int32} (hX : va_X b L xs s s.heap) (hbl : b < s.heap.size) {a1 a2 : Nat} {hx hm : hp} (hsim : Sim hx hm) {x3 : Int32} (g1 : vp_in (x3 + 1) L) (g2 : vp_in (x3 + 2) L) (g3 : vp_in (x3 + 3) L) (g4 : vp_in (x3 + 4) L) (g5 : vp_in (x3 + 5) L) {cells slots : Nat} (hC : cells + 5 ≤ 619789) (hSl : slots + 139 ≤ 7242880) {H : Heap} {locs : List Loc} {la : Array Slot} (hw : LW D E (fun a => s.heap.size ≤ a) a1 a2 hx hm H) (hS : va_S (fun a => s.heap.size ≤ a) s.heap H locs) (hl : lv_has la 4 [(3, .int x3), (2, .ref a2), (1, .ref a1), (0, .ref b)]) (K : ∀ (H : Heap) (locs : List Loc) (hx hm : hp), Sim hx hm → LW D E (fun a => s.heap.size ≤ a) a1 a2 hx hm H → va_S (fun a => s.heap.size ≤ a) s.heap H locs → W p l e room_1 s m #[Value.ref b] below meth c H locs (cells + 5) (slots + 139) Q (F0 m 1370 la [])) : W p l e room_1 s m #[Value.ref b] below meth c H locs cells slots Q (F0 m 486 la []) := by
  obtain ⟨r, f1, f2⟩ := s_told hsim (xs (x3 + 1).toNatClampNeg)
  refine lv_aload_n X.1 X.2.1 dL_law_486 rfl (lv_at hl 2 rfl) ?_
  refine lv_aload_n X.1 X.2.1 dL_law_487 rfl (lv_at hl 3 rfl) ?_
  refine lv_iload_n X.1 X.2.1 dL_law_488 rfl (lv_at hl 0 rfl) ?_
  refine lv_iconst (v := 1) X.1 X.2.1 dL_law_489 (by decide) ?_
  refine lv_iadd X.1 X.2.1 dL_law_490 ?_
  refine va_sld X.1 X.2.1 hX hbl (Nat.not_le.mpr hbl) hS g1 dL_law_491 ?_
  refine lc_X X [.int (xs (x3 + 1).toNatClampNeg)] [] (r := .int r) (mc := 0) (ms := 0) (fun L q => k_X11_told (ω := (l, D, E, 1, ζ)) rfl f1) mt_X11_told (mT_3 146 rfl rfl) ⟨Nat.le_of_ble_eq_true rfl, Nat.le_of_ble_eq_true rfl⟩ rfl rfl (by omega) (Nat.le_of_ble_eq_true rfl) dL_law_492 hw hS hl (fun H locs hw hS => ?_)
  refine lv_aload_n X.1 X.2.1 dL_law_495 rfl (lv_at hl 1 rfl) ?_
  refine lv_aload_n X.1 X.2.1 dL_law_496 rfl (lv_at hl 3 rfl) ?_
  refine lv_iload_n X.1 X.2.1 dL_law_497 rfl (lv_at hl 0 rfl) ?_
  refine lv_iconst (v := 1) X.1 X.2.1 dL_law_498 (by decide) ?_
  refine lv_iadd X.1 X.2.1 dL_law_499 ?_
  refine va_sld X.1 X.2.1 hX hbl (Nat.not_le.mpr hbl) hS g1 dL_law_500 ?_
  refine lc_M X [.int (xs (x3 + 1).toNatClampNeg)] [.int r] (r := .int r) (fun L q => k_X12_told (ω := (l, D, E, 0, ζ)) rfl f2) mt_X12_told (mT_6 156 rfl rfl) ⟨Nat.le_of_ble_eq_true rfl, Nat.le_of_ble_eq_true rfl⟩ rfl rfl (by omega) (Nat.le_of_ble_eq_true rfl) dL_law_501 hw hS hl (fun H locs hw hS => ?_)
  refine lv_icmp_eq (tgt := 1370) X.1 X.2.1 dL_law_504 (by decide) (fun _ => ?_) (fun hne => absurd rfl hne)
  refine W.widen (k := cells + 5) (n := slots + 139) (by omega) (by omega) ?_
  exact K _ _ _ _ hsim hw hS
set_option maxHeartbeats 4000000 in
theorem law_w11 {p : Program} {l : Launch} {e : Env} {s : State} {m : MethodId} {below : List Frame} {meth : Method} {c : Code} {b : Nat} {D : va_G} {E : Nat → ClassId} {ζ : XZ} {Q : State → Prop} (X : XC (l, D, E, 1, ζ) room_1 4 (p, e, s, m, #[Value.ref b], below, meth, c, Q, fun a => s.heap.size ≤ a) code RL) {L : Nat} {xs : Nat → Int32} (hX : va_X b L xs s s.heap) (hbl : b < s.heap.size) {a1 a2 : Nat} {hx hm : hp} (hsim : Sim hx hm) {x3 : Int32} (g1 : vp_in (x3 + 1) L) (g2 : vp_in (x3 + 2) L) (g3 : vp_in (x3 + 3) L) (g4 : vp_in (x3 + 4) L) (g5 : vp_in (x3 + 5) L) {cells slots : Nat} (hC : cells + 5 ≤ 619789) (hSl : slots + 139 ≤ 7242880) {H : Heap} {locs : List Loc} {la : Array Slot} (hw : LW D E (fun a => s.heap.size ≤ a) a1 a2 hx hm H) (hS : va_S (fun a => s.heap.size ≤ a) s.heap H locs) (hl : lv_has la 4 [(3, .int x3), (2, .ref a2), (1, .ref a1), (0, .ref b)]) (K : ∀ (H : Heap) (locs : List Loc) (hx hm : hp), Sim hx hm → LW D E (fun a => s.heap.size ≤ a) a1 a2 hx hm H → va_S (fun a => s.heap.size ≤ a) s.heap H locs → W p l e room_1 s m #[Value.ref b] below meth c H locs (cells + 5) (slots + 139) Q (F0 m 1370 la [])) : W p l e room_1 s m #[Value.ref b] below meth c H locs cells slots Q (F0 m 509 la []) := by
  obtain ⟨hx', hm', r, f1, f2, hs'⟩ := s_pass hsim (xs (x3 + 1).toNatClampNeg)
  refine lv_aload_n X.1 X.2.1 dL_law_509 rfl (lv_at hl 2 rfl) ?_
  refine lv_aload_n X.1 X.2.1 dL_law_510 rfl (lv_at hl 3 rfl) ?_
  refine lv_iload_n X.1 X.2.1 dL_law_511 rfl (lv_at hl 0 rfl) ?_
  refine lv_iconst (v := 1) X.1 X.2.1 dL_law_512 (by decide) ?_
  refine lv_iadd X.1 X.2.1 dL_law_513 ?_
  refine va_sld X.1 X.2.1 hX hbl (Nat.not_le.mpr hbl) hS g1 dL_law_514 ?_
  refine lc_X X [.int (xs (x3 + 1).toNatClampNeg)] [] (r := .int r) (mc := 0) (ms := 0) (fun L q => k_X11_pass (ω := (l, D, E, 1, ζ)) rfl f1) mt_X11_pass (mT_3 163 rfl rfl) ⟨Nat.le_of_ble_eq_true rfl, Nat.le_of_ble_eq_true rfl⟩ rfl rfl (by omega) (Nat.le_of_ble_eq_true rfl) dL_law_515 hw hS hl (fun H locs hw hS => ?_)
  refine lv_aload_n X.1 X.2.1 dL_law_518 rfl (lv_at hl 1 rfl) ?_
  refine lv_aload_n X.1 X.2.1 dL_law_519 rfl (lv_at hl 3 rfl) ?_
  refine lv_iload_n X.1 X.2.1 dL_law_520 rfl (lv_at hl 0 rfl) ?_
  refine lv_iconst (v := 1) X.1 X.2.1 dL_law_521 (by decide) ?_
  refine lv_iadd X.1 X.2.1 dL_law_522 ?_
  refine va_sld X.1 X.2.1 hX hbl (Nat.not_le.mpr hbl) hS g1 dL_law_523 ?_
  refine lc_M X [.int (xs (x3 + 1).toNatClampNeg)] [.int r] (r := .int r) (fun L q => k_X12_pass (ω := (l, D, E, 0, ζ)) rfl f2) mt_X12_pass (mT_6 172 rfl rfl) ⟨Nat.le_of_ble_eq_true rfl, Nat.le_of_ble_eq_true rfl⟩ rfl rfl (by omega) (Nat.le_of_ble_eq_true rfl) dL_law_524 hw hS hl (fun H locs hw hS => ?_)
  refine lv_icmp_eq (tgt := 1370) X.1 X.2.1 dL_law_527 (by decide) (fun _ => ?_) (fun hne => absurd rfl hne)
  refine W.widen (k := cells + 5) (n := slots + 139) (by omega) (by omega) ?_
  exact K _ _ _ _ hs' hw hS
set_option maxHeartbeats 4000000 in
theorem law_w12 {p : Program} {l : Launch} {e : Env} {s : State} {m : MethodId} {below : List Frame} {meth : Method} {c : Code} {b : Nat} {D : va_G} {E : Nat → ClassId} {ζ : XZ} {Q : State → Prop} (X : XC (l, D, E, 1, ζ) room_1 4 (p, e, s, m, #[Value.ref b], below, meth, c, Q, fun a => s.heap.size ≤ a) code RL) {L : Nat} {xs : Nat → Int32} (hX : va_X b L xs s s.heap) (hbl : b < s.heap.size) {a1 a2 : Nat} {hx hm : hp} (hsim : Sim hx hm) {x3 : Int32} (g1 : vp_in (x3 + 1) L) (g2 : vp_in (x3 + 2) L) (g3 : vp_in (x3 + 3) L) (g4 : vp_in (x3 + 4) L) (g5 : vp_in (x3 + 5) L) {cells slots : Nat} (hC : cells + 5 ≤ 619789) (hSl : slots + 139 ≤ 7242880) {H : Heap} {locs : List Loc} {la : Array Slot} (hw : LW D E (fun a => s.heap.size ≤ a) a1 a2 hx hm H) (hS : va_S (fun a => s.heap.size ≤ a) s.heap H locs) (hl : lv_has la 4 [(3, .int x3), (2, .ref a2), (1, .ref a1), (0, .ref b)]) (K : ∀ (H : Heap) (locs : List Loc) (hx hm : hp), Sim hx hm → LW D E (fun a => s.heap.size ≤ a) a1 a2 hx hm H → va_S (fun a => s.heap.size ≤ a) s.heap H locs → W p l e room_1 s m #[Value.ref b] below meth c H locs (cells + 5) (slots + 139) Q (F0 m 1370 la [])) : W p l e room_1 s m #[Value.ref b] below meth c H locs cells slots Q (F0 m 532 la []) := by
  obtain ⟨hx', hm', r, f1, f2, hs'⟩ := s_saying hsim (xs (x3 + 1).toNatClampNeg) (xs (x3 + 2).toNatClampNeg) (xs (x3 + 3).toNatClampNeg)
  refine lv_aload_n X.1 X.2.1 dL_law_532 rfl (lv_at hl 2 rfl) ?_
  refine lv_aload_n X.1 X.2.1 dL_law_533 rfl (lv_at hl 3 rfl) ?_
  refine lv_iload_n X.1 X.2.1 dL_law_534 rfl (lv_at hl 0 rfl) ?_
  refine lv_iconst (v := 1) X.1 X.2.1 dL_law_535 (by decide) ?_
  refine lv_iadd X.1 X.2.1 dL_law_536 ?_
  refine va_sld X.1 X.2.1 hX hbl (Nat.not_le.mpr hbl) hS g1 dL_law_537 ?_
  refine lv_aload_n X.1 X.2.1 dL_law_538 rfl (lv_at hl 3 rfl) ?_
  refine lv_iload_n X.1 X.2.1 dL_law_539 rfl (lv_at hl 0 rfl) ?_
  refine lv_iconst (v := 2) X.1 X.2.1 dL_law_540 (by decide) ?_
  refine lv_iadd X.1 X.2.1 dL_law_541 ?_
  refine va_sld X.1 X.2.1 hX hbl (Nat.not_le.mpr hbl) hS g2 dL_law_542 ?_
  refine lv_aload_n X.1 X.2.1 dL_law_543 rfl (lv_at hl 3 rfl) ?_
  refine lv_iload_n X.1 X.2.1 dL_law_544 rfl (lv_at hl 0 rfl) ?_
  refine lv_iconst (v := 3) X.1 X.2.1 dL_law_545 (by decide) ?_
  refine lv_iadd X.1 X.2.1 dL_law_546 ?_
  refine va_sld X.1 X.2.1 hX hbl (Nat.not_le.mpr hbl) hS g3 dL_law_547 ?_
  refine lc_X X [.int (xs (x3 + 1).toNatClampNeg), .int (xs (x3 + 2).toNatClampNeg), .int (xs (x3 + 3).toNatClampNeg)] [] (r := .int r) (mc := 0) (ms := 0) (fun L q => k_X11_saying (ω := (l, D, E, 1, ζ)) rfl f1) mt_X11_saying (mT_3 167 rfl rfl) ⟨Nat.le_of_ble_eq_true rfl, Nat.le_of_ble_eq_true rfl⟩ rfl rfl (by omega) (Nat.le_of_ble_eq_true rfl) dL_law_548 hw hS hl (fun H locs hw hS => ?_)
  refine lv_aload_n X.1 X.2.1 dL_law_551 rfl (lv_at hl 1 rfl) ?_
  refine lv_aload_n X.1 X.2.1 dL_law_552 rfl (lv_at hl 3 rfl) ?_
  refine lv_iload_n X.1 X.2.1 dL_law_553 rfl (lv_at hl 0 rfl) ?_
  refine lv_iconst (v := 1) X.1 X.2.1 dL_law_554 (by decide) ?_
  refine lv_iadd X.1 X.2.1 dL_law_555 ?_
  refine va_sld X.1 X.2.1 hX hbl (Nat.not_le.mpr hbl) hS g1 dL_law_556 ?_
  refine lv_aload_n X.1 X.2.1 dL_law_557 rfl (lv_at hl 3 rfl) ?_
  refine lv_iload_n X.1 X.2.1 dL_law_558 rfl (lv_at hl 0 rfl) ?_
  refine lv_iconst (v := 2) X.1 X.2.1 dL_law_559 (by decide) ?_
  refine lv_iadd X.1 X.2.1 dL_law_560 ?_
  refine va_sld X.1 X.2.1 hX hbl (Nat.not_le.mpr hbl) hS g2 dL_law_561 ?_
  refine lv_aload_n X.1 X.2.1 dL_law_562 rfl (lv_at hl 3 rfl) ?_
  refine lv_iload_n X.1 X.2.1 dL_law_563 rfl (lv_at hl 0 rfl) ?_
  refine lv_iconst (v := 3) X.1 X.2.1 dL_law_564 (by decide) ?_
  refine lv_iadd X.1 X.2.1 dL_law_565 ?_
  refine va_sld X.1 X.2.1 hX hbl (Nat.not_le.mpr hbl) hS g3 dL_law_566 ?_
  refine lc_M X [.int (xs (x3 + 1).toNatClampNeg), .int (xs (x3 + 2).toNatClampNeg), .int (xs (x3 + 3).toNatClampNeg)] [.int r] (r := .int r) (fun L q => k_X12_saying (ω := (l, D, E, 0, ζ)) rfl f2) mt_X12_saying (mT_6 176 rfl rfl) ⟨Nat.le_of_ble_eq_true rfl, Nat.le_of_ble_eq_true rfl⟩ rfl rfl (by omega) (Nat.le_of_ble_eq_true rfl) dL_law_567 hw hS hl (fun H locs hw hS => ?_)
  refine lv_icmp_eq (tgt := 1370) X.1 X.2.1 dL_law_570 (by decide) (fun _ => ?_) (fun hne => absurd rfl hne)
  refine W.widen (k := cells + 5) (n := slots + 139) (by omega) (by omega) ?_
  exact K _ _ _ _ hs' hw hS
set_option maxHeartbeats 4000000 in
theorem law_w13 {p : Program} {l : Launch} {e : Env} {s : State} {m : MethodId} {below : List Frame} {meth : Method} {c : Code} {b : Nat} {D : va_G} {E : Nat → ClassId} {ζ : XZ} {Q : State → Prop} (X : XC (l, D, E, 1, ζ) room_1 4 (p, e, s, m, #[Value.ref b], below, meth, c, Q, fun a => s.heap.size ≤ a) code RL) {L : Nat} {xs : Nat → Int32} (hX : va_X b L xs s s.heap) (hbl : b < s.heap.size) {a1 a2 : Nat} {hx hm : hp} (hsim : Sim hx hm) {x3 : Int32} (g1 : vp_in (x3 + 1) L) (g2 : vp_in (x3 + 2) L) (g3 : vp_in (x3 + 3) L) (g4 : vp_in (x3 + 4) L) (g5 : vp_in (x3 + 5) L) {cells slots : Nat} (hC : cells + 5 ≤ 619789) (hSl : slots + 139 ≤ 7242880) {H : Heap} {locs : List Loc} {la : Array Slot} (hw : LW D E (fun a => s.heap.size ≤ a) a1 a2 hx hm H) (hS : va_S (fun a => s.heap.size ≤ a) s.heap H locs) (hl : lv_has la 4 [(3, .int x3), (2, .ref a2), (1, .ref a1), (0, .ref b)]) (K : ∀ (H : Heap) (locs : List Loc) (hx hm : hp), Sim hx hm → LW D E (fun a => s.heap.size ≤ a) a1 a2 hx hm H → va_S (fun a => s.heap.size ≤ a) s.heap H locs → W p l e room_1 s m #[Value.ref b] below meth c H locs (cells + 5) (slots + 139) Q (F0 m 1370 la [])) : W p l e room_1 s m #[Value.ref b] below meth c H locs cells slots Q (F0 m 575 la []) := by
  obtain ⟨hx', hm', r, f1, f2, hs'⟩ := s_hours hsim (xs (x3 + 1).toNatClampNeg) (xs (x3 + 2).toNatClampNeg)
  refine lv_aload_n X.1 X.2.1 dL_law_575 rfl (lv_at hl 2 rfl) ?_
  refine lv_aload_n X.1 X.2.1 dL_law_576 rfl (lv_at hl 3 rfl) ?_
  refine lv_iload_n X.1 X.2.1 dL_law_577 rfl (lv_at hl 0 rfl) ?_
  refine lv_iconst (v := 1) X.1 X.2.1 dL_law_578 (by decide) ?_
  refine lv_iadd X.1 X.2.1 dL_law_579 ?_
  refine va_sld X.1 X.2.1 hX hbl (Nat.not_le.mpr hbl) hS g1 dL_law_580 ?_
  refine lv_aload_n X.1 X.2.1 dL_law_581 rfl (lv_at hl 3 rfl) ?_
  refine lv_iload_n X.1 X.2.1 dL_law_582 rfl (lv_at hl 0 rfl) ?_
  refine lv_iconst (v := 2) X.1 X.2.1 dL_law_583 (by decide) ?_
  refine lv_iadd X.1 X.2.1 dL_law_584 ?_
  refine va_sld X.1 X.2.1 hX hbl (Nat.not_le.mpr hbl) hS g2 dL_law_585 ?_
  refine lc_X X [.int (xs (x3 + 1).toNatClampNeg), .int (xs (x3 + 2).toNatClampNeg)] [] (r := .int r) (mc := 0) (ms := 0) (fun L q => k_X11_hours (ω := (l, D, E, 1, ζ)) rfl f1) mt_X11_hours (mT_3 174 rfl rfl) ⟨Nat.le_of_ble_eq_true rfl, Nat.le_of_ble_eq_true rfl⟩ rfl rfl (by omega) (Nat.le_of_ble_eq_true rfl) dL_law_586 hw hS hl (fun H locs hw hS => ?_)
  refine lv_aload_n X.1 X.2.1 dL_law_589 rfl (lv_at hl 1 rfl) ?_
  refine lv_aload_n X.1 X.2.1 dL_law_590 rfl (lv_at hl 3 rfl) ?_
  refine lv_iload_n X.1 X.2.1 dL_law_591 rfl (lv_at hl 0 rfl) ?_
  refine lv_iconst (v := 1) X.1 X.2.1 dL_law_592 (by decide) ?_
  refine lv_iadd X.1 X.2.1 dL_law_593 ?_
  refine va_sld X.1 X.2.1 hX hbl (Nat.not_le.mpr hbl) hS g1 dL_law_594 ?_
  refine lv_aload_n X.1 X.2.1 dL_law_595 rfl (lv_at hl 3 rfl) ?_
  refine lv_iload_n X.1 X.2.1 dL_law_596 rfl (lv_at hl 0 rfl) ?_
  refine lv_iconst (v := 2) X.1 X.2.1 dL_law_597 (by decide) ?_
  refine lv_iadd X.1 X.2.1 dL_law_598 ?_
  refine va_sld X.1 X.2.1 hX hbl (Nat.not_le.mpr hbl) hS g2 dL_law_599 ?_
  refine lc_M X [.int (xs (x3 + 1).toNatClampNeg), .int (xs (x3 + 2).toNatClampNeg)] [.int r] (r := .int r) (fun L q => k_X12_hours (ω := (l, D, E, 0, ζ)) rfl f2) mt_X12_hours (mT_6 180 rfl rfl) ⟨Nat.le_of_ble_eq_true rfl, Nat.le_of_ble_eq_true rfl⟩ rfl rfl (by omega) (Nat.le_of_ble_eq_true rfl) dL_law_600 hw hS hl (fun H locs hw hS => ?_)
  refine lv_icmp_eq (tgt := 1370) X.1 X.2.1 dL_law_603 (by decide) (fun _ => ?_) (fun hne => absurd rfl hne)
  refine W.widen (k := cells + 5) (n := slots + 139) (by omega) (by omega) ?_
  exact K _ _ _ _ hs' hw hS
set_option maxHeartbeats 4000000 in
theorem law_w14 {p : Program} {l : Launch} {e : Env} {s : State} {m : MethodId} {below : List Frame} {meth : Method} {c : Code} {b : Nat} {D : va_G} {E : Nat → ClassId} {ζ : XZ} {Q : State → Prop} (X : XC (l, D, E, 1, ζ) room_1 4 (p, e, s, m, #[Value.ref b], below, meth, c, Q, fun a => s.heap.size ≤ a) code RL) {L : Nat} {xs : Nat → Int32} (hX : va_X b L xs s s.heap) (hbl : b < s.heap.size) {a1 a2 : Nat} {hx hm : hp} (hsim : Sim hx hm) {x3 : Int32} (g1 : vp_in (x3 + 1) L) (g2 : vp_in (x3 + 2) L) (g3 : vp_in (x3 + 3) L) (g4 : vp_in (x3 + 4) L) (g5 : vp_in (x3 + 5) L) {cells slots : Nat} (hC : cells + 5 ≤ 619789) (hSl : slots + 139 ≤ 7242880) {H : Heap} {locs : List Loc} {la : Array Slot} (hw : LW D E (fun a => s.heap.size ≤ a) a1 a2 hx hm H) (hS : va_S (fun a => s.heap.size ≤ a) s.heap H locs) (hl : lv_has la 4 [(3, .int x3), (2, .ref a2), (1, .ref a1), (0, .ref b)]) (K : ∀ (H : Heap) (locs : List Loc) (hx hm : hp), Sim hx hm → LW D E (fun a => s.heap.size ≤ a) a1 a2 hx hm H → va_S (fun a => s.heap.size ≤ a) s.heap H locs → W p l e room_1 s m #[Value.ref b] below meth c H locs (cells + 5) (slots + 139) Q (F0 m 1370 la [])) : W p l e room_1 s m #[Value.ref b] below meth c H locs cells slots Q (F0 m 608 la []) := by
  obtain ⟨hx', hm', r, f1, f2, hs'⟩ := s_senders hsim (xs (x3 + 1).toNatClampNeg) (xs (x3 + 2).toNatClampNeg)
  refine lv_aload_n X.1 X.2.1 dL_law_608 rfl (lv_at hl 2 rfl) ?_
  refine lv_aload_n X.1 X.2.1 dL_law_609 rfl (lv_at hl 3 rfl) ?_
  refine lv_iload_n X.1 X.2.1 dL_law_610 rfl (lv_at hl 0 rfl) ?_
  refine lv_iconst (v := 1) X.1 X.2.1 dL_law_611 (by decide) ?_
  refine lv_iadd X.1 X.2.1 dL_law_612 ?_
  refine va_sld X.1 X.2.1 hX hbl (Nat.not_le.mpr hbl) hS g1 dL_law_613 ?_
  refine lv_aload_n X.1 X.2.1 dL_law_614 rfl (lv_at hl 3 rfl) ?_
  refine lv_iload_n X.1 X.2.1 dL_law_615 rfl (lv_at hl 0 rfl) ?_
  refine lv_iconst (v := 2) X.1 X.2.1 dL_law_616 (by decide) ?_
  refine lv_iadd X.1 X.2.1 dL_law_617 ?_
  refine va_sld X.1 X.2.1 hX hbl (Nat.not_le.mpr hbl) hS g2 dL_law_618 ?_
  refine lc_X X [.int (xs (x3 + 1).toNatClampNeg), .int (xs (x3 + 2).toNatClampNeg)] [] (r := .int r) (mc := 0) (ms := 0) (fun L q => k_X11_senders (ω := (l, D, E, 1, ζ)) rfl f1) mt_X11_senders (mT_3 178 rfl rfl) ⟨Nat.le_of_ble_eq_true rfl, Nat.le_of_ble_eq_true rfl⟩ rfl rfl (by omega) (Nat.le_of_ble_eq_true rfl) dL_law_619 hw hS hl (fun H locs hw hS => ?_)
  refine lv_aload_n X.1 X.2.1 dL_law_622 rfl (lv_at hl 1 rfl) ?_
  refine lv_aload_n X.1 X.2.1 dL_law_623 rfl (lv_at hl 3 rfl) ?_
  refine lv_iload_n X.1 X.2.1 dL_law_624 rfl (lv_at hl 0 rfl) ?_
  refine lv_iconst (v := 1) X.1 X.2.1 dL_law_625 (by decide) ?_
  refine lv_iadd X.1 X.2.1 dL_law_626 ?_
  refine va_sld X.1 X.2.1 hX hbl (Nat.not_le.mpr hbl) hS g1 dL_law_627 ?_
  refine lv_aload_n X.1 X.2.1 dL_law_628 rfl (lv_at hl 3 rfl) ?_
  refine lv_iload_n X.1 X.2.1 dL_law_629 rfl (lv_at hl 0 rfl) ?_
  refine lv_iconst (v := 2) X.1 X.2.1 dL_law_630 (by decide) ?_
  refine lv_iadd X.1 X.2.1 dL_law_631 ?_
  refine va_sld X.1 X.2.1 hX hbl (Nat.not_le.mpr hbl) hS g2 dL_law_632 ?_
  refine lc_M X [.int (xs (x3 + 1).toNatClampNeg), .int (xs (x3 + 2).toNatClampNeg)] [.int r] (r := .int r) (fun L q => k_X12_senders (ω := (l, D, E, 0, ζ)) rfl f2) mt_X12_senders (mT_6 184 rfl rfl) ⟨Nat.le_of_ble_eq_true rfl, Nat.le_of_ble_eq_true rfl⟩ rfl rfl (by omega) (Nat.le_of_ble_eq_true rfl) dL_law_633 hw hS hl (fun H locs hw hS => ?_)
  refine lv_icmp_eq (tgt := 1370) X.1 X.2.1 dL_law_636 (by decide) (fun _ => ?_) (fun hne => absurd rfl hne)
  refine W.widen (k := cells + 5) (n := slots + 139) (by omega) (by omega) ?_
  exact K _ _ _ _ hs' hw hS
set_option maxHeartbeats 4000000 in
theorem law_w15 {p : Program} {l : Launch} {e : Env} {s : State} {m : MethodId} {below : List Frame} {meth : Method} {c : Code} {b : Nat} {D : va_G} {E : Nat → ClassId} {ζ : XZ} {Q : State → Prop} (X : XC (l, D, E, 1, ζ) room_1 4 (p, e, s, m, #[Value.ref b], below, meth, c, Q, fun a => s.heap.size ≤ a) code RL) {L : Nat} {xs : Nat → Int32} (hX : va_X b L xs s s.heap) (hbl : b < s.heap.size) {a1 a2 : Nat} {hx hm : hp} (hsim : Sim hx hm) {x3 : Int32} (g1 : vp_in (x3 + 1) L) (g2 : vp_in (x3 + 2) L) (g3 : vp_in (x3 + 3) L) (g4 : vp_in (x3 + 4) L) (g5 : vp_in (x3 + 5) L) {cells slots : Nat} (hC : cells + 5 ≤ 619789) (hSl : slots + 139 ≤ 7242880) {H : Heap} {locs : List Loc} {la : Array Slot} (hw : LW D E (fun a => s.heap.size ≤ a) a1 a2 hx hm H) (hS : va_S (fun a => s.heap.size ≤ a) s.heap H locs) (hl : lv_has la 4 [(3, .int x3), (2, .ref a2), (1, .ref a1), (0, .ref b)]) (K : ∀ (H : Heap) (locs : List Loc) (hx hm : hp), Sim hx hm → LW D E (fun a => s.heap.size ≤ a) a1 a2 hx hm H → va_S (fun a => s.heap.size ≤ a) s.heap H locs → W p l e room_1 s m #[Value.ref b] below meth c H locs (cells + 5) (slots + 139) Q (F0 m 1370 la [])) : W p l e room_1 s m #[Value.ref b] below meth c H locs cells slots Q (F0 m 641 la []) := by
  obtain ⟨hx', hm', r, f1, f2, hs'⟩ := s_meant hsim (xs (x3 + 1).toNatClampNeg) (xs (x3 + 2).toNatClampNeg)
  refine lv_aload_n X.1 X.2.1 dL_law_641 rfl (lv_at hl 2 rfl) ?_
  refine lv_aload_n X.1 X.2.1 dL_law_642 rfl (lv_at hl 3 rfl) ?_
  refine lv_iload_n X.1 X.2.1 dL_law_643 rfl (lv_at hl 0 rfl) ?_
  refine lv_iconst (v := 1) X.1 X.2.1 dL_law_644 (by decide) ?_
  refine lv_iadd X.1 X.2.1 dL_law_645 ?_
  refine va_sld X.1 X.2.1 hX hbl (Nat.not_le.mpr hbl) hS g1 dL_law_646 ?_
  refine lv_aload_n X.1 X.2.1 dL_law_647 rfl (lv_at hl 3 rfl) ?_
  refine lv_iload_n X.1 X.2.1 dL_law_648 rfl (lv_at hl 0 rfl) ?_
  refine lv_iconst (v := 2) X.1 X.2.1 dL_law_649 (by decide) ?_
  refine lv_iadd X.1 X.2.1 dL_law_650 ?_
  refine va_sld X.1 X.2.1 hX hbl (Nat.not_le.mpr hbl) hS g2 dL_law_651 ?_
  refine lc_X X [.int (xs (x3 + 1).toNatClampNeg), .int (xs (x3 + 2).toNatClampNeg)] [] (r := .int r) (mc := 0) (ms := 0) (fun L q => k_X11_meant (ω := (l, D, E, 1, ζ)) rfl f1) mt_X11_meant (mT_3 182 rfl rfl) ⟨Nat.le_of_ble_eq_true rfl, Nat.le_of_ble_eq_true rfl⟩ rfl rfl (by omega) (Nat.le_of_ble_eq_true rfl) dL_law_652 hw hS hl (fun H locs hw hS => ?_)
  refine lv_aload_n X.1 X.2.1 dL_law_655 rfl (lv_at hl 1 rfl) ?_
  refine lv_aload_n X.1 X.2.1 dL_law_656 rfl (lv_at hl 3 rfl) ?_
  refine lv_iload_n X.1 X.2.1 dL_law_657 rfl (lv_at hl 0 rfl) ?_
  refine lv_iconst (v := 1) X.1 X.2.1 dL_law_658 (by decide) ?_
  refine lv_iadd X.1 X.2.1 dL_law_659 ?_
  refine va_sld X.1 X.2.1 hX hbl (Nat.not_le.mpr hbl) hS g1 dL_law_660 ?_
  refine lv_aload_n X.1 X.2.1 dL_law_661 rfl (lv_at hl 3 rfl) ?_
  refine lv_iload_n X.1 X.2.1 dL_law_662 rfl (lv_at hl 0 rfl) ?_
  refine lv_iconst (v := 2) X.1 X.2.1 dL_law_663 (by decide) ?_
  refine lv_iadd X.1 X.2.1 dL_law_664 ?_
  refine va_sld X.1 X.2.1 hX hbl (Nat.not_le.mpr hbl) hS g2 dL_law_665 ?_
  refine lc_M X [.int (xs (x3 + 1).toNatClampNeg), .int (xs (x3 + 2).toNatClampNeg)] [.int r] (r := .int r) (fun L q => k_X12_meant (ω := (l, D, E, 0, ζ)) rfl f2) mt_X12_meant (mT_6 188 rfl rfl) ⟨Nat.le_of_ble_eq_true rfl, Nat.le_of_ble_eq_true rfl⟩ rfl rfl (by omega) (Nat.le_of_ble_eq_true rfl) dL_law_666 hw hS hl (fun H locs hw hS => ?_)
  refine lv_icmp_eq (tgt := 1370) X.1 X.2.1 dL_law_669 (by decide) (fun _ => ?_) (fun hne => absurd rfl hne)
  refine W.widen (k := cells + 5) (n := slots + 139) (by omega) (by omega) ?_
  exact K _ _ _ _ hs' hw hS
