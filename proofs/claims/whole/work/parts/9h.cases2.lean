-- ===== the law: cases 16 to 23 =====
set_option maxHeartbeats 4000000 in
theorem law_w16 {p : Program} {l : Launch} {e : Env} {s : State} {m : MethodId} {below : List Frame} {meth : Method} {c : Code} {b : Nat} {D : va_G} {E : Nat → ClassId} {ζ : XZ} {Q : State → Prop} (X : XC (l, D, E, 1, ζ) room_1 4 (p, e, s, m, #[Value.ref b], below, meth, c, Q, fun a => s.heap.size ≤ a) code RL) {L : Nat} {xs : Nat → Int32} (hX : va_X b L xs s s.heap) (hbl : b < s.heap.size) {a1 a2 : Nat} {hx hm : hp} (hsim : Sim hx hm) {x3 : Int32} (g1 : vp_in (x3 + 1) L) (g2 : vp_in (x3 + 2) L) (g3 : vp_in (x3 + 3) L) (g4 : vp_in (x3 + 4) L) (g5 : vp_in (x3 + 5) L) {cells slots : Nat} (hC : cells + 5 ≤ 619789) (hSl : slots + 139 ≤ 7242880) {H : Heap} {locs : List Loc} {la : Array Slot} (hw : LW D E (fun a => s.heap.size ≤ a) a1 a2 hx hm H) (hS : va_S (fun a => s.heap.size ≤ a) s.heap H locs) (hl : lv_has la 4 [(3, .int x3), (2, .ref a2), (1, .ref a1), (0, .ref b)]) (K : ∀ (H : Heap) (locs : List Loc) (hx hm : hp), Sim hx hm → LW D E (fun a => s.heap.size ≤ a) a1 a2 hx hm H → va_S (fun a => s.heap.size ≤ a) s.heap H locs → W p l e room_1 s m #[Value.ref b] below meth c H locs (cells + 5) (slots + 139) Q (F0 m 1370 la [])) : W p l e room_1 s m #[Value.ref b] below meth c H locs cells slots Q (F0 m 674 la []) := by
  obtain ⟨hx', hm', r, f1, f2, hs'⟩ := s_passed hsim (xs (x3 + 1).toNatClampNeg) (xs (x3 + 2).toNatClampNeg)
  refine lv_aload_n X.1 X.2.1 dL_law_674 rfl (lv_at hl 2 rfl) ?_
  refine lv_aload_n X.1 X.2.1 dL_law_675 rfl (lv_at hl 3 rfl) ?_
  refine lv_iload_n X.1 X.2.1 dL_law_676 rfl (lv_at hl 0 rfl) ?_
  refine lv_iconst (v := 1) X.1 X.2.1 dL_law_677 (by decide) ?_
  refine lv_iadd X.1 X.2.1 dL_law_678 ?_
  refine va_sld X.1 X.2.1 hX hbl (Nat.not_le.mpr hbl) hS g1 dL_law_679 ?_
  refine lv_aload_n X.1 X.2.1 dL_law_680 rfl (lv_at hl 3 rfl) ?_
  refine lv_iload_n X.1 X.2.1 dL_law_681 rfl (lv_at hl 0 rfl) ?_
  refine lv_iconst (v := 2) X.1 X.2.1 dL_law_682 (by decide) ?_
  refine lv_iadd X.1 X.2.1 dL_law_683 ?_
  refine va_sld X.1 X.2.1 hX hbl (Nat.not_le.mpr hbl) hS g2 dL_law_684 ?_
  refine lc_X X [.int (xs (x3 + 1).toNatClampNeg), .int (xs (x3 + 2).toNatClampNeg)] [] (r := .int r) (mc := 0) (ms := 0) (fun L q => k_X11_passed (ω := (l, D, E, 1, ζ)) rfl f1) mt_X11_passed (mT_3 186 rfl rfl) ⟨Nat.le_of_ble_eq_true rfl, Nat.le_of_ble_eq_true rfl⟩ rfl rfl (by omega) (Nat.le_of_ble_eq_true rfl) dL_law_685 hw hS hl (fun H locs hw hS => ?_)
  refine lv_aload_n X.1 X.2.1 dL_law_688 rfl (lv_at hl 1 rfl) ?_
  refine lv_aload_n X.1 X.2.1 dL_law_689 rfl (lv_at hl 3 rfl) ?_
  refine lv_iload_n X.1 X.2.1 dL_law_690 rfl (lv_at hl 0 rfl) ?_
  refine lv_iconst (v := 1) X.1 X.2.1 dL_law_691 (by decide) ?_
  refine lv_iadd X.1 X.2.1 dL_law_692 ?_
  refine va_sld X.1 X.2.1 hX hbl (Nat.not_le.mpr hbl) hS g1 dL_law_693 ?_
  refine lv_aload_n X.1 X.2.1 dL_law_694 rfl (lv_at hl 3 rfl) ?_
  refine lv_iload_n X.1 X.2.1 dL_law_695 rfl (lv_at hl 0 rfl) ?_
  refine lv_iconst (v := 2) X.1 X.2.1 dL_law_696 (by decide) ?_
  refine lv_iadd X.1 X.2.1 dL_law_697 ?_
  refine va_sld X.1 X.2.1 hX hbl (Nat.not_le.mpr hbl) hS g2 dL_law_698 ?_
  refine lc_M X [.int (xs (x3 + 1).toNatClampNeg), .int (xs (x3 + 2).toNatClampNeg)] [.int r] (r := .int r) (fun L q => k_X12_passed (ω := (l, D, E, 0, ζ)) rfl f2) mt_X12_passed (mT_6 192 rfl rfl) ⟨Nat.le_of_ble_eq_true rfl, Nat.le_of_ble_eq_true rfl⟩ rfl rfl (by omega) (Nat.le_of_ble_eq_true rfl) dL_law_699 hw hS hl (fun H locs hw hS => ?_)
  refine lv_icmp_eq (tgt := 1370) X.1 X.2.1 dL_law_702 (by decide) (fun _ => ?_) (fun hne => absurd rfl hne)
  refine W.widen (k := cells + 5) (n := slots + 139) (by omega) (by omega) ?_
  exact K _ _ _ _ hs' hw hS
set_option maxHeartbeats 4000000 in
theorem law_w17 {p : Program} {l : Launch} {e : Env} {s : State} {m : MethodId} {below : List Frame} {meth : Method} {c : Code} {b : Nat} {D : va_G} {E : Nat → ClassId} {ζ : XZ} {Q : State → Prop} (X : XC (l, D, E, 1, ζ) room_1 4 (p, e, s, m, #[Value.ref b], below, meth, c, Q, fun a => s.heap.size ≤ a) code RL) {L : Nat} {xs : Nat → Int32} (hX : va_X b L xs s s.heap) (hbl : b < s.heap.size) {a1 a2 : Nat} {hx hm : hp} (hsim : Sim hx hm) {x3 : Int32} (g1 : vp_in (x3 + 1) L) (g2 : vp_in (x3 + 2) L) (g3 : vp_in (x3 + 3) L) (g4 : vp_in (x3 + 4) L) (g5 : vp_in (x3 + 5) L) {cells slots : Nat} (hC : cells + 5 ≤ 619789) (hSl : slots + 139 ≤ 7242880) {H : Heap} {locs : List Loc} {la : Array Slot} (hw : LW D E (fun a => s.heap.size ≤ a) a1 a2 hx hm H) (hS : va_S (fun a => s.heap.size ≤ a) s.heap H locs) (hl : lv_has la 4 [(3, .int x3), (2, .ref a2), (1, .ref a1), (0, .ref b)]) (K : ∀ (H : Heap) (locs : List Loc) (hx hm : hp), Sim hx hm → LW D E (fun a => s.heap.size ≤ a) a1 a2 hx hm H → va_S (fun a => s.heap.size ≤ a) s.heap H locs → W p l e room_1 s m #[Value.ref b] below meth c H locs (cells + 5) (slots + 139) Q (F0 m 1370 la [])) : W p l e room_1 s m #[Value.ref b] below meth c H locs cells slots Q (F0 m 707 la []) := by
  obtain ⟨hx', hm', r, f1, f2, hs'⟩ := s_see hsim (xs (x3 + 1).toNatClampNeg) (xs (x3 + 2).toNatClampNeg)
  refine lv_aload_n X.1 X.2.1 dL_law_707 rfl (lv_at hl 2 rfl) ?_
  refine lv_aload_n X.1 X.2.1 dL_law_708 rfl (lv_at hl 3 rfl) ?_
  refine lv_iload_n X.1 X.2.1 dL_law_709 rfl (lv_at hl 0 rfl) ?_
  refine lv_iconst (v := 1) X.1 X.2.1 dL_law_710 (by decide) ?_
  refine lv_iadd X.1 X.2.1 dL_law_711 ?_
  refine va_sld X.1 X.2.1 hX hbl (Nat.not_le.mpr hbl) hS g1 dL_law_712 ?_
  refine lv_aload_n X.1 X.2.1 dL_law_713 rfl (lv_at hl 3 rfl) ?_
  refine lv_iload_n X.1 X.2.1 dL_law_714 rfl (lv_at hl 0 rfl) ?_
  refine lv_iconst (v := 2) X.1 X.2.1 dL_law_715 (by decide) ?_
  refine lv_iadd X.1 X.2.1 dL_law_716 ?_
  refine va_sld X.1 X.2.1 hX hbl (Nat.not_le.mpr hbl) hS g2 dL_law_717 ?_
  refine lc_X X [.int (xs (x3 + 1).toNatClampNeg), .int (xs (x3 + 2).toNatClampNeg)] [] (r := .int r) (mc := 0) (ms := 0) (fun L q => k_X11_see (ω := (l, D, E, 1, ζ)) rfl f1) mt_X11_see (mT_3 209 rfl rfl) ⟨Nat.le_of_ble_eq_true rfl, Nat.le_of_ble_eq_true rfl⟩ rfl rfl (by omega) (Nat.le_of_ble_eq_true rfl) dL_law_718 hw hS hl (fun H locs hw hS => ?_)
  refine lv_aload_n X.1 X.2.1 dL_law_721 rfl (lv_at hl 1 rfl) ?_
  refine lv_aload_n X.1 X.2.1 dL_law_722 rfl (lv_at hl 3 rfl) ?_
  refine lv_iload_n X.1 X.2.1 dL_law_723 rfl (lv_at hl 0 rfl) ?_
  refine lv_iconst (v := 1) X.1 X.2.1 dL_law_724 (by decide) ?_
  refine lv_iadd X.1 X.2.1 dL_law_725 ?_
  refine va_sld X.1 X.2.1 hX hbl (Nat.not_le.mpr hbl) hS g1 dL_law_726 ?_
  refine lv_aload_n X.1 X.2.1 dL_law_727 rfl (lv_at hl 3 rfl) ?_
  refine lv_iload_n X.1 X.2.1 dL_law_728 rfl (lv_at hl 0 rfl) ?_
  refine lv_iconst (v := 2) X.1 X.2.1 dL_law_729 (by decide) ?_
  refine lv_iadd X.1 X.2.1 dL_law_730 ?_
  refine va_sld X.1 X.2.1 hX hbl (Nat.not_le.mpr hbl) hS g2 dL_law_731 ?_
  refine lc_M X [.int (xs (x3 + 1).toNatClampNeg), .int (xs (x3 + 2).toNatClampNeg)] [.int r] (r := .int r) (fun L q => k_X12_see (ω := (l, D, E, 0, ζ)) rfl f2) mt_X12_see (mT_6 200 rfl rfl) ⟨Nat.le_of_ble_eq_true rfl, Nat.le_of_ble_eq_true rfl⟩ rfl rfl (by omega) (Nat.le_of_ble_eq_true rfl) dL_law_732 hw hS hl (fun H locs hw hS => ?_)
  refine lv_icmp_eq (tgt := 1370) X.1 X.2.1 dL_law_735 (by decide) (fun _ => ?_) (fun hne => absurd rfl hne)
  refine W.widen (k := cells + 5) (n := slots + 139) (by omega) (by omega) ?_
  exact K _ _ _ _ hs' hw hS
set_option maxHeartbeats 4000000 in
theorem law_w18 {p : Program} {l : Launch} {e : Env} {s : State} {m : MethodId} {below : List Frame} {meth : Method} {c : Code} {b : Nat} {D : va_G} {E : Nat → ClassId} {ζ : XZ} {Q : State → Prop} (X : XC (l, D, E, 1, ζ) room_1 4 (p, e, s, m, #[Value.ref b], below, meth, c, Q, fun a => s.heap.size ≤ a) code RL) {L : Nat} {xs : Nat → Int32} (hX : va_X b L xs s s.heap) (hbl : b < s.heap.size) {a1 a2 : Nat} {hx hm : hp} (hsim : Sim hx hm) {x3 : Int32} (g1 : vp_in (x3 + 1) L) (g2 : vp_in (x3 + 2) L) (g3 : vp_in (x3 + 3) L) (g4 : vp_in (x3 + 4) L) (g5 : vp_in (x3 + 5) L) {cells slots : Nat} (hC : cells + 5 ≤ 619789) (hSl : slots + 139 ≤ 7242880) {H : Heap} {locs : List Loc} {la : Array Slot} (hw : LW D E (fun a => s.heap.size ≤ a) a1 a2 hx hm H) (hS : va_S (fun a => s.heap.size ≤ a) s.heap H locs) (hl : lv_has la 4 [(3, .int x3), (2, .ref a2), (1, .ref a1), (0, .ref b)]) (K : ∀ (H : Heap) (locs : List Loc) (hx hm : hp), Sim hx hm → LW D E (fun a => s.heap.size ≤ a) a1 a2 hx hm H → va_S (fun a => s.heap.size ≤ a) s.heap H locs → W p l e room_1 s m #[Value.ref b] below meth c H locs (cells + 5) (slots + 139) Q (F0 m 1370 la [])) : W p l e room_1 s m #[Value.ref b] below meth c H locs cells slots Q (F0 m 740 la []) := by
  obtain ⟨hx', hm', r, f1, f2, hs'⟩ := s_can hsim (xs (x3 + 1).toNatClampNeg) (xs (x3 + 2).toNatClampNeg)
  refine lv_aload_n X.1 X.2.1 dL_law_740 rfl (lv_at hl 2 rfl) ?_
  refine lv_aload_n X.1 X.2.1 dL_law_741 rfl (lv_at hl 3 rfl) ?_
  refine lv_iload_n X.1 X.2.1 dL_law_742 rfl (lv_at hl 0 rfl) ?_
  refine lv_iconst (v := 1) X.1 X.2.1 dL_law_743 (by decide) ?_
  refine lv_iadd X.1 X.2.1 dL_law_744 ?_
  refine va_sld X.1 X.2.1 hX hbl (Nat.not_le.mpr hbl) hS g1 dL_law_745 ?_
  refine lv_aload_n X.1 X.2.1 dL_law_746 rfl (lv_at hl 3 rfl) ?_
  refine lv_iload_n X.1 X.2.1 dL_law_747 rfl (lv_at hl 0 rfl) ?_
  refine lv_iconst (v := 2) X.1 X.2.1 dL_law_748 (by decide) ?_
  refine lv_iadd X.1 X.2.1 dL_law_749 ?_
  refine va_sld X.1 X.2.1 hX hbl (Nat.not_le.mpr hbl) hS g2 dL_law_750 ?_
  refine lc_X X [.int (xs (x3 + 1).toNatClampNeg), .int (xs (x3 + 2).toNatClampNeg)] [] (r := .int r) (mc := 0) (ms := 0) (fun L q => k_X11_can (ω := (l, D, E, 1, ζ)) rfl f1) mt_X11_can (mT_3 217 rfl rfl) ⟨Nat.le_of_ble_eq_true rfl, Nat.le_of_ble_eq_true rfl⟩ rfl rfl (by omega) (Nat.le_of_ble_eq_true rfl) dL_law_751 hw hS hl (fun H locs hw hS => ?_)
  refine lv_aload_n X.1 X.2.1 dL_law_754 rfl (lv_at hl 1 rfl) ?_
  refine lv_aload_n X.1 X.2.1 dL_law_755 rfl (lv_at hl 3 rfl) ?_
  refine lv_iload_n X.1 X.2.1 dL_law_756 rfl (lv_at hl 0 rfl) ?_
  refine lv_iconst (v := 1) X.1 X.2.1 dL_law_757 (by decide) ?_
  refine lv_iadd X.1 X.2.1 dL_law_758 ?_
  refine va_sld X.1 X.2.1 hX hbl (Nat.not_le.mpr hbl) hS g1 dL_law_759 ?_
  refine lv_aload_n X.1 X.2.1 dL_law_760 rfl (lv_at hl 3 rfl) ?_
  refine lv_iload_n X.1 X.2.1 dL_law_761 rfl (lv_at hl 0 rfl) ?_
  refine lv_iconst (v := 2) X.1 X.2.1 dL_law_762 (by decide) ?_
  refine lv_iadd X.1 X.2.1 dL_law_763 ?_
  refine va_sld X.1 X.2.1 hX hbl (Nat.not_le.mpr hbl) hS g2 dL_law_764 ?_
  refine lc_M X [.int (xs (x3 + 1).toNatClampNeg), .int (xs (x3 + 2).toNatClampNeg)] [.int r] (r := .int r) (fun L q => k_X12_can (ω := (l, D, E, 0, ζ)) rfl f2) mt_X12_can (mT_6 204 rfl rfl) ⟨Nat.le_of_ble_eq_true rfl, Nat.le_of_ble_eq_true rfl⟩ rfl rfl (by omega) (Nat.le_of_ble_eq_true rfl) dL_law_765 hw hS hl (fun H locs hw hS => ?_)
  refine lv_icmp_eq (tgt := 1370) X.1 X.2.1 dL_law_768 (by decide) (fun _ => ?_) (fun hne => absurd rfl hne)
  refine W.widen (k := cells + 5) (n := slots + 139) (by omega) (by omega) ?_
  exact K _ _ _ _ hs' hw hS
set_option maxHeartbeats 4000000 in
theorem law_w19 {p : Program} {l : Launch} {e : Env} {s : State} {m : MethodId} {below : List Frame} {meth : Method} {c : Code} {b : Nat} {D : va_G} {E : Nat → ClassId} {ζ : XZ} {Q : State → Prop} (X : XC (l, D, E, 1, ζ) room_1 4 (p, e, s, m, #[Value.ref b], below, meth, c, Q, fun a => s.heap.size ≤ a) code RL) {L : Nat} {xs : Nat → Int32} (hX : va_X b L xs s s.heap) (hbl : b < s.heap.size) {a1 a2 : Nat} {hx hm : hp} (hsim : Sim hx hm) {x3 : Int32} (g1 : vp_in (x3 + 1) L) (g2 : vp_in (x3 + 2) L) (g3 : vp_in (x3 + 3) L) (g4 : vp_in (x3 + 4) L) (g5 : vp_in (x3 + 5) L) {cells slots : Nat} (hC : cells + 5 ≤ 619789) (hSl : slots + 139 ≤ 7242880) {H : Heap} {locs : List Loc} {la : Array Slot} (hw : LW D E (fun a => s.heap.size ≤ a) a1 a2 hx hm H) (hS : va_S (fun a => s.heap.size ≤ a) s.heap H locs) (hl : lv_has la 4 [(3, .int x3), (2, .ref a2), (1, .ref a1), (0, .ref b)]) (K : ∀ (H : Heap) (locs : List Loc) (hx hm : hp), Sim hx hm → LW D E (fun a => s.heap.size ≤ a) a1 a2 hx hm H → va_S (fun a => s.heap.size ≤ a) s.heap H locs → W p l e room_1 s m #[Value.ref b] below meth c H locs (cells + 5) (slots + 139) Q (F0 m 1370 la [])) : W p l e room_1 s m #[Value.ref b] below meth c H locs cells slots Q (F0 m 773 la []) := by
  obtain ⟨hx', hm', r, f1, f2, hs'⟩ := s_when hsim (xs (x3 + 1).toNatClampNeg) (xs (x3 + 2).toNatClampNeg)
  refine lv_aload_n X.1 X.2.1 dL_law_773 rfl (lv_at hl 2 rfl) ?_
  refine lv_aload_n X.1 X.2.1 dL_law_774 rfl (lv_at hl 3 rfl) ?_
  refine lv_iload_n X.1 X.2.1 dL_law_775 rfl (lv_at hl 0 rfl) ?_
  refine lv_iconst (v := 1) X.1 X.2.1 dL_law_776 (by decide) ?_
  refine lv_iadd X.1 X.2.1 dL_law_777 ?_
  refine va_sld X.1 X.2.1 hX hbl (Nat.not_le.mpr hbl) hS g1 dL_law_778 ?_
  refine lv_aload_n X.1 X.2.1 dL_law_779 rfl (lv_at hl 3 rfl) ?_
  refine lv_iload_n X.1 X.2.1 dL_law_780 rfl (lv_at hl 0 rfl) ?_
  refine lv_iconst (v := 2) X.1 X.2.1 dL_law_781 (by decide) ?_
  refine lv_iadd X.1 X.2.1 dL_law_782 ?_
  refine va_sld X.1 X.2.1 hX hbl (Nat.not_le.mpr hbl) hS g2 dL_law_783 ?_
  refine lc_X X [.int (xs (x3 + 1).toNatClampNeg), .int (xs (x3 + 2).toNatClampNeg)] [] (r := .int r) (mc := 0) (ms := 0) (fun L q => k_X11_when (ω := (l, D, E, 1, ζ)) rfl f1) mt_X11_when (mT_3 225 rfl rfl) ⟨Nat.le_of_ble_eq_true rfl, Nat.le_of_ble_eq_true rfl⟩ rfl rfl (by omega) (Nat.le_of_ble_eq_true rfl) dL_law_784 hw hS hl (fun H locs hw hS => ?_)
  refine lv_aload_n X.1 X.2.1 dL_law_787 rfl (lv_at hl 1 rfl) ?_
  refine lv_aload_n X.1 X.2.1 dL_law_788 rfl (lv_at hl 3 rfl) ?_
  refine lv_iload_n X.1 X.2.1 dL_law_789 rfl (lv_at hl 0 rfl) ?_
  refine lv_iconst (v := 1) X.1 X.2.1 dL_law_790 (by decide) ?_
  refine lv_iadd X.1 X.2.1 dL_law_791 ?_
  refine va_sld X.1 X.2.1 hX hbl (Nat.not_le.mpr hbl) hS g1 dL_law_792 ?_
  refine lv_aload_n X.1 X.2.1 dL_law_793 rfl (lv_at hl 3 rfl) ?_
  refine lv_iload_n X.1 X.2.1 dL_law_794 rfl (lv_at hl 0 rfl) ?_
  refine lv_iconst (v := 2) X.1 X.2.1 dL_law_795 (by decide) ?_
  refine lv_iadd X.1 X.2.1 dL_law_796 ?_
  refine va_sld X.1 X.2.1 hX hbl (Nat.not_le.mpr hbl) hS g2 dL_law_797 ?_
  refine lc_M X [.int (xs (x3 + 1).toNatClampNeg), .int (xs (x3 + 2).toNatClampNeg)] [.int r] (r := .int r) (fun L q => k_X12_when (ω := (l, D, E, 0, ζ)) rfl f2) mt_X12_when (mT_6 212 rfl rfl) ⟨Nat.le_of_ble_eq_true rfl, Nat.le_of_ble_eq_true rfl⟩ rfl rfl (by omega) (Nat.le_of_ble_eq_true rfl) dL_law_798 hw hS hl (fun H locs hw hS => ?_)
  refine lv_icmp_eq (tgt := 1370) X.1 X.2.1 dL_law_801 (by decide) (fun _ => ?_) (fun hne => absurd rfl hne)
  refine W.widen (k := cells + 5) (n := slots + 139) (by omega) (by omega) ?_
  exact K _ _ _ _ hs' hw hS
set_option maxHeartbeats 4000000 in
theorem law_w20 {p : Program} {l : Launch} {e : Env} {s : State} {m : MethodId} {below : List Frame} {meth : Method} {c : Code} {b : Nat} {D : va_G} {E : Nat → ClassId} {ζ : XZ} {Q : State → Prop} (X : XC (l, D, E, 1, ζ) room_1 4 (p, e, s, m, #[Value.ref b], below, meth, c, Q, fun a => s.heap.size ≤ a) code RL) {L : Nat} {xs : Nat → Int32} (hX : va_X b L xs s s.heap) (hbl : b < s.heap.size) {a1 a2 : Nat} {hx hm : hp} (hsim : Sim hx hm) {x3 : Int32} (g1 : vp_in (x3 + 1) L) (g2 : vp_in (x3 + 2) L) (g3 : vp_in (x3 + 3) L) (g4 : vp_in (x3 + 4) L) (g5 : vp_in (x3 + 5) L) {cells slots : Nat} (hC : cells + 5 ≤ 619789) (hSl : slots + 139 ≤ 7242880) {H : Heap} {locs : List Loc} {la : Array Slot} (hw : LW D E (fun a => s.heap.size ≤ a) a1 a2 hx hm H) (hS : va_S (fun a => s.heap.size ≤ a) s.heap H locs) (hl : lv_has la 4 [(3, .int x3), (2, .ref a2), (1, .ref a1), (0, .ref b)]) (K : ∀ (H : Heap) (locs : List Loc) (hx hm : hp), Sim hx hm → LW D E (fun a => s.heap.size ≤ a) a1 a2 hx hm H → va_S (fun a => s.heap.size ≤ a) s.heap H locs → W p l e room_1 s m #[Value.ref b] below meth c H locs (cells + 5) (slots + 139) Q (F0 m 1370 la [])) : W p l e room_1 s m #[Value.ref b] below meth c H locs cells slots Q (F0 m 806 la []) := by
  obtain ⟨hx', hm', r, f1, f2, hs'⟩ := s_odds hsim (xs (x3 + 1).toNatClampNeg) (xs (x3 + 2).toNatClampNeg) (xs (x3 + 3).toNatClampNeg)
  refine lv_aload_n X.1 X.2.1 dL_law_806 rfl (lv_at hl 2 rfl) ?_
  refine lv_aload_n X.1 X.2.1 dL_law_807 rfl (lv_at hl 3 rfl) ?_
  refine lv_iload_n X.1 X.2.1 dL_law_808 rfl (lv_at hl 0 rfl) ?_
  refine lv_iconst (v := 1) X.1 X.2.1 dL_law_809 (by decide) ?_
  refine lv_iadd X.1 X.2.1 dL_law_810 ?_
  refine va_sld X.1 X.2.1 hX hbl (Nat.not_le.mpr hbl) hS g1 dL_law_811 ?_
  refine lv_aload_n X.1 X.2.1 dL_law_812 rfl (lv_at hl 3 rfl) ?_
  refine lv_iload_n X.1 X.2.1 dL_law_813 rfl (lv_at hl 0 rfl) ?_
  refine lv_iconst (v := 2) X.1 X.2.1 dL_law_814 (by decide) ?_
  refine lv_iadd X.1 X.2.1 dL_law_815 ?_
  refine va_sld X.1 X.2.1 hX hbl (Nat.not_le.mpr hbl) hS g2 dL_law_816 ?_
  refine lv_aload_n X.1 X.2.1 dL_law_817 rfl (lv_at hl 3 rfl) ?_
  refine lv_iload_n X.1 X.2.1 dL_law_818 rfl (lv_at hl 0 rfl) ?_
  refine lv_iconst (v := 3) X.1 X.2.1 dL_law_819 (by decide) ?_
  refine lv_iadd X.1 X.2.1 dL_law_820 ?_
  refine va_sld X.1 X.2.1 hX hbl (Nat.not_le.mpr hbl) hS g3 dL_law_821 ?_
  refine lc_X X [.int (xs (x3 + 1).toNatClampNeg), .int (xs (x3 + 2).toNatClampNeg), .int (xs (x3 + 3).toNatClampNeg)] [] (r := .long r) (mc := 0) (ms := 0) (fun L q => k_X11_odds (ω := (l, D, E, 1, ζ)) rfl f1) mt_X11_odds (mT_3 229 rfl rfl) ⟨Nat.le_of_ble_eq_true rfl, Nat.le_of_ble_eq_true rfl⟩ rfl rfl (by omega) (Nat.le_of_ble_eq_true rfl) dL_law_822 hw hS hl (fun H locs hw hS => ?_)
  refine lv_aload_n X.1 X.2.1 dL_law_825 rfl (lv_at hl 1 rfl) ?_
  refine lv_aload_n X.1 X.2.1 dL_law_826 rfl (lv_at hl 3 rfl) ?_
  refine lv_iload_n X.1 X.2.1 dL_law_827 rfl (lv_at hl 0 rfl) ?_
  refine lv_iconst (v := 1) X.1 X.2.1 dL_law_828 (by decide) ?_
  refine lv_iadd X.1 X.2.1 dL_law_829 ?_
  refine va_sld X.1 X.2.1 hX hbl (Nat.not_le.mpr hbl) hS g1 dL_law_830 ?_
  refine lv_aload_n X.1 X.2.1 dL_law_831 rfl (lv_at hl 3 rfl) ?_
  refine lv_iload_n X.1 X.2.1 dL_law_832 rfl (lv_at hl 0 rfl) ?_
  refine lv_iconst (v := 2) X.1 X.2.1 dL_law_833 (by decide) ?_
  refine lv_iadd X.1 X.2.1 dL_law_834 ?_
  refine va_sld X.1 X.2.1 hX hbl (Nat.not_le.mpr hbl) hS g2 dL_law_835 ?_
  refine lv_aload_n X.1 X.2.1 dL_law_836 rfl (lv_at hl 3 rfl) ?_
  refine lv_iload_n X.1 X.2.1 dL_law_837 rfl (lv_at hl 0 rfl) ?_
  refine lv_iconst (v := 3) X.1 X.2.1 dL_law_838 (by decide) ?_
  refine lv_iadd X.1 X.2.1 dL_law_839 ?_
  refine va_sld X.1 X.2.1 hX hbl (Nat.not_le.mpr hbl) hS g3 dL_law_840 ?_
  refine lc_M X [.int (xs (x3 + 1).toNatClampNeg), .int (xs (x3 + 2).toNatClampNeg), .int (xs (x3 + 3).toNatClampNeg)] [.long r] (r := .long r) (fun L q => k_X12_odds (ω := (l, D, E, 0, ζ)) rfl f2) mt_X12_odds (mT_6 216 rfl rfl) ⟨Nat.le_of_ble_eq_true rfl, Nat.le_of_ble_eq_true rfl⟩ rfl rfl (by omega) (Nat.le_of_ble_eq_true rfl) dL_law_841 hw hS hl (fun H locs hw hS => ?_)
  refine W.lcmp X.1 X.2.1 dL_law_844 ?_
  refine lv_if_eq (tgt := 1370) X.1 X.2.1 dL_law_845 (by decide) (fun _ => ?_) (fun hne => absurd (lcmp_self r) hne)
  refine W.widen (k := cells + 5) (n := slots + 139) (by omega) (by omega) ?_
  exact K _ _ _ _ hs' hw hS
set_option maxHeartbeats 4000000 in
theorem law_w21 {p : Program} {l : Launch} {e : Env} {s : State} {m : MethodId} {below : List Frame} {meth : Method} {c : Code} {b : Nat} {D : va_G} {E : Nat → ClassId} {ζ : XZ} {Q : State → Prop} (X : XC (l, D, E, 1, ζ) room_1 4 (p, e, s, m, #[Value.ref b], below, meth, c, Q, fun a => s.heap.size ≤ a) code RL) {L : Nat} {xs : Nat → Int32} (hX : va_X b L xs s s.heap) (hbl : b < s.heap.size) {a1 a2 : Nat} {hx hm : hp} (hsim : Sim hx hm) {x3 : Int32} (g1 : vp_in (x3 + 1) L) (g2 : vp_in (x3 + 2) L) (g3 : vp_in (x3 + 3) L) (g4 : vp_in (x3 + 4) L) (g5 : vp_in (x3 + 5) L) {cells slots : Nat} (hC : cells + 5 ≤ 619789) (hSl : slots + 139 ≤ 7242880) {H : Heap} {locs : List Loc} {la : Array Slot} (hw : LW D E (fun a => s.heap.size ≤ a) a1 a2 hx hm H) (hS : va_S (fun a => s.heap.size ≤ a) s.heap H locs) (hl : lv_has la 4 [(3, .int x3), (2, .ref a2), (1, .ref a1), (0, .ref b)]) (K : ∀ (H : Heap) (locs : List Loc) (hx hm : hp), Sim hx hm → LW D E (fun a => s.heap.size ≤ a) a1 a2 hx hm H → va_S (fun a => s.heap.size ≤ a) s.heap H locs → W p l e room_1 s m #[Value.ref b] below meth c H locs (cells + 5) (slots + 139) Q (F0 m 1370 la [])) : W p l e room_1 s m #[Value.ref b] below meth c H locs cells slots Q (F0 m 850 la []) := by
  obtain ⟨r, f1, f2⟩ := s_mean hsim (xs (x3 + 1).toNatClampNeg)
  refine lv_aload_n X.1 X.2.1 dL_law_850 rfl (lv_at hl 2 rfl) ?_
  refine lv_aload_n X.1 X.2.1 dL_law_851 rfl (lv_at hl 3 rfl) ?_
  refine lv_iload_n X.1 X.2.1 dL_law_852 rfl (lv_at hl 0 rfl) ?_
  refine lv_iconst (v := 1) X.1 X.2.1 dL_law_853 (by decide) ?_
  refine lv_iadd X.1 X.2.1 dL_law_854 ?_
  refine va_sld X.1 X.2.1 hX hbl (Nat.not_le.mpr hbl) hS g1 dL_law_855 ?_
  refine lc_X X [.int (xs (x3 + 1).toNatClampNeg)] [] (r := .long r) (mc := 0) (ms := 0) (fun L q => k_X11_mean (ω := (l, D, E, 1, ζ)) rfl f1) mt_X11_mean (mT_3 237 rfl rfl) ⟨Nat.le_of_ble_eq_true rfl, Nat.le_of_ble_eq_true rfl⟩ rfl rfl (by omega) (Nat.le_of_ble_eq_true rfl) dL_law_856 hw hS hl (fun H locs hw hS => ?_)
  refine lv_aload_n X.1 X.2.1 dL_law_859 rfl (lv_at hl 1 rfl) ?_
  refine lv_aload_n X.1 X.2.1 dL_law_860 rfl (lv_at hl 3 rfl) ?_
  refine lv_iload_n X.1 X.2.1 dL_law_861 rfl (lv_at hl 0 rfl) ?_
  refine lv_iconst (v := 1) X.1 X.2.1 dL_law_862 (by decide) ?_
  refine lv_iadd X.1 X.2.1 dL_law_863 ?_
  refine va_sld X.1 X.2.1 hX hbl (Nat.not_le.mpr hbl) hS g1 dL_law_864 ?_
  refine lc_M X [.int (xs (x3 + 1).toNatClampNeg)] [.long r] (r := .long r) (fun L q => k_X12_mean (ω := (l, D, E, 0, ζ)) rfl f2) mt_X12_mean (mT_6 229 rfl rfl) ⟨Nat.le_of_ble_eq_true rfl, Nat.le_of_ble_eq_true rfl⟩ rfl rfl (by omega) (Nat.le_of_ble_eq_true rfl) dL_law_865 hw hS hl (fun H locs hw hS => ?_)
  refine W.lcmp X.1 X.2.1 dL_law_868 ?_
  refine lv_if_eq (tgt := 1370) X.1 X.2.1 dL_law_869 (by decide) (fun _ => ?_) (fun hne => absurd (lcmp_self r) hne)
  refine W.widen (k := cells + 5) (n := slots + 139) (by omega) (by omega) ?_
  exact K _ _ _ _ hsim hw hS
set_option maxHeartbeats 4000000 in
theorem law_w22 {p : Program} {l : Launch} {e : Env} {s : State} {m : MethodId} {below : List Frame} {meth : Method} {c : Code} {b : Nat} {D : va_G} {E : Nat → ClassId} {ζ : XZ} {Q : State → Prop} (X : XC (l, D, E, 1, ζ) room_1 4 (p, e, s, m, #[Value.ref b], below, meth, c, Q, fun a => s.heap.size ≤ a) code RL) {L : Nat} {xs : Nat → Int32} (hX : va_X b L xs s s.heap) (hbl : b < s.heap.size) {a1 a2 : Nat} {hx hm : hp} (hsim : Sim hx hm) {x3 : Int32} (g1 : vp_in (x3 + 1) L) (g2 : vp_in (x3 + 2) L) (g3 : vp_in (x3 + 3) L) (g4 : vp_in (x3 + 4) L) (g5 : vp_in (x3 + 5) L) {cells slots : Nat} (hC : cells + 5 ≤ 619789) (hSl : slots + 139 ≤ 7242880) {H : Heap} {locs : List Loc} {la : Array Slot} (hw : LW D E (fun a => s.heap.size ≤ a) a1 a2 hx hm H) (hS : va_S (fun a => s.heap.size ≤ a) s.heap H locs) (hl : lv_has la 4 [(3, .int x3), (2, .ref a2), (1, .ref a1), (0, .ref b)]) (K : ∀ (H : Heap) (locs : List Loc) (hx hm : hp), Sim hx hm → LW D E (fun a => s.heap.size ≤ a) a1 a2 hx hm H → va_S (fun a => s.heap.size ≤ a) s.heap H locs → W p l e room_1 s m #[Value.ref b] below meth c H locs (cells + 5) (slots + 139) Q (F0 m 1370 la [])) : W p l e room_1 s m #[Value.ref b] below meth c H locs cells slots Q (F0 m 874 la []) := by
  obtain ⟨hx', hm', r, f1, f2, hs'⟩ := s_relay hsim (xs (x3 + 1).toNatClampNeg)
  refine lv_aload_n X.1 X.2.1 dL_law_874 rfl (lv_at hl 2 rfl) ?_
  refine lv_aload_n X.1 X.2.1 dL_law_875 rfl (lv_at hl 3 rfl) ?_
  refine lv_iload_n X.1 X.2.1 dL_law_876 rfl (lv_at hl 0 rfl) ?_
  refine lv_iconst (v := 1) X.1 X.2.1 dL_law_877 (by decide) ?_
  refine lv_iadd X.1 X.2.1 dL_law_878 ?_
  refine va_sld X.1 X.2.1 hX hbl (Nat.not_le.mpr hbl) hS g1 dL_law_879 ?_
  refine lc_X X [.int (xs (x3 + 1).toNatClampNeg)] [] (r := .int r) (mc := 0) (ms := 0) (fun L q => k_X11_relay (ω := (l, D, E, 1, ζ)) rfl f1) mt_X11_relay (mT_4 1 rfl rfl) ⟨Nat.le_of_ble_eq_true rfl, Nat.le_of_ble_eq_true rfl⟩ rfl rfl (by omega) (Nat.le_of_ble_eq_true rfl) dL_law_880 hw hS hl (fun H locs hw hS => ?_)
  refine lv_aload_n X.1 X.2.1 dL_law_883 rfl (lv_at hl 1 rfl) ?_
  refine lv_aload_n X.1 X.2.1 dL_law_884 rfl (lv_at hl 3 rfl) ?_
  refine lv_iload_n X.1 X.2.1 dL_law_885 rfl (lv_at hl 0 rfl) ?_
  refine lv_iconst (v := 1) X.1 X.2.1 dL_law_886 (by decide) ?_
  refine lv_iadd X.1 X.2.1 dL_law_887 ?_
  refine va_sld X.1 X.2.1 hX hbl (Nat.not_le.mpr hbl) hS g1 dL_law_888 ?_
  refine lc_M X [.int (xs (x3 + 1).toNatClampNeg)] [.int r] (r := .int r) (fun L q => k_X12_relay (ω := (l, D, E, 0, ζ)) rfl f2) mt_X12_relay (mT_6 233 rfl rfl) ⟨Nat.le_of_ble_eq_true rfl, Nat.le_of_ble_eq_true rfl⟩ rfl rfl (by omega) (Nat.le_of_ble_eq_true rfl) dL_law_889 hw hS hl (fun H locs hw hS => ?_)
  refine lv_icmp_eq (tgt := 1370) X.1 X.2.1 dL_law_892 (by decide) (fun _ => ?_) (fun hne => absurd rfl hne)
  refine W.widen (k := cells + 5) (n := slots + 139) (by omega) (by omega) ?_
  exact K _ _ _ _ hs' hw hS
set_option maxHeartbeats 4000000 in
theorem law_w23 {p : Program} {l : Launch} {e : Env} {s : State} {m : MethodId} {below : List Frame} {meth : Method} {c : Code} {b : Nat} {D : va_G} {E : Nat → ClassId} {ζ : XZ} {Q : State → Prop} (X : XC (l, D, E, 1, ζ) room_1 4 (p, e, s, m, #[Value.ref b], below, meth, c, Q, fun a => s.heap.size ≤ a) code RL) {L : Nat} {xs : Nat → Int32} (hX : va_X b L xs s s.heap) (hbl : b < s.heap.size) {a1 a2 : Nat} {hx hm : hp} (hsim : Sim hx hm) {x3 : Int32} (g1 : vp_in (x3 + 1) L) (g2 : vp_in (x3 + 2) L) (g3 : vp_in (x3 + 3) L) (g4 : vp_in (x3 + 4) L) (g5 : vp_in (x3 + 5) L) {cells slots : Nat} (hC : cells + 5 ≤ 619789) (hSl : slots + 139 ≤ 7242880) {H : Heap} {locs : List Loc} {la : Array Slot} (hw : LW D E (fun a => s.heap.size ≤ a) a1 a2 hx hm H) (hS : va_S (fun a => s.heap.size ≤ a) s.heap H locs) (hl : lv_has la 4 [(3, .int x3), (2, .ref a2), (1, .ref a1), (0, .ref b)]) (K : ∀ (H : Heap) (locs : List Loc) (hx hm : hp), Sim hx hm → LW D E (fun a => s.heap.size ≤ a) a1 a2 hx hm H → va_S (fun a => s.heap.size ≤ a) s.heap H locs → W p l e room_1 s m #[Value.ref b] below meth c H locs (cells + 5) (slots + 139) Q (F0 m 1370 la [])) : W p l e room_1 s m #[Value.ref b] below meth c H locs cells slots Q (F0 m 897 la []) := by
  obtain ⟨hx', hm', r, f1, f2, hs'⟩ := s_ends hsim (xs (x3 + 1).toNatClampNeg) (xs (x3 + 2).toNatClampNeg)
  refine lv_aload_n X.1 X.2.1 dL_law_897 rfl (lv_at hl 2 rfl) ?_
  refine lv_aload_n X.1 X.2.1 dL_law_898 rfl (lv_at hl 3 rfl) ?_
  refine lv_iload_n X.1 X.2.1 dL_law_899 rfl (lv_at hl 0 rfl) ?_
  refine lv_iconst (v := 1) X.1 X.2.1 dL_law_900 (by decide) ?_
  refine lv_iadd X.1 X.2.1 dL_law_901 ?_
  refine va_sld X.1 X.2.1 hX hbl (Nat.not_le.mpr hbl) hS g1 dL_law_902 ?_
  refine lv_aload_n X.1 X.2.1 dL_law_903 rfl (lv_at hl 3 rfl) ?_
  refine lv_iload_n X.1 X.2.1 dL_law_904 rfl (lv_at hl 0 rfl) ?_
  refine lv_iconst (v := 2) X.1 X.2.1 dL_law_905 (by decide) ?_
  refine lv_iadd X.1 X.2.1 dL_law_906 ?_
  refine va_sld X.1 X.2.1 hX hbl (Nat.not_le.mpr hbl) hS g2 dL_law_907 ?_
  refine lc_X X [.int (xs (x3 + 1).toNatClampNeg), .int (xs (x3 + 2).toNatClampNeg)] [] (r := .int r) (mc := 0) (ms := 0) (fun L q => k_X11_ends (ω := (l, D, E, 1, ζ)) rfl f1) mt_X11_ends (mT_4 5 rfl rfl) ⟨Nat.le_of_ble_eq_true rfl, Nat.le_of_ble_eq_true rfl⟩ rfl rfl (by omega) (Nat.le_of_ble_eq_true rfl) dL_law_908 hw hS hl (fun H locs hw hS => ?_)
  refine lv_aload_n X.1 X.2.1 dL_law_911 rfl (lv_at hl 1 rfl) ?_
  refine lv_aload_n X.1 X.2.1 dL_law_912 rfl (lv_at hl 3 rfl) ?_
  refine lv_iload_n X.1 X.2.1 dL_law_913 rfl (lv_at hl 0 rfl) ?_
  refine lv_iconst (v := 1) X.1 X.2.1 dL_law_914 (by decide) ?_
  refine lv_iadd X.1 X.2.1 dL_law_915 ?_
  refine va_sld X.1 X.2.1 hX hbl (Nat.not_le.mpr hbl) hS g1 dL_law_916 ?_
  refine lv_aload_n X.1 X.2.1 dL_law_917 rfl (lv_at hl 3 rfl) ?_
  refine lv_iload_n X.1 X.2.1 dL_law_918 rfl (lv_at hl 0 rfl) ?_
  refine lv_iconst (v := 2) X.1 X.2.1 dL_law_919 (by decide) ?_
  refine lv_iadd X.1 X.2.1 dL_law_920 ?_
  refine va_sld X.1 X.2.1 hX hbl (Nat.not_le.mpr hbl) hS g2 dL_law_921 ?_
  refine lc_M X [.int (xs (x3 + 1).toNatClampNeg), .int (xs (x3 + 2).toNatClampNeg)] [.int r] (r := .int r) (fun L q => k_X12_ends (ω := (l, D, E, 0, ζ)) rfl f2) mt_X12_ends (mT_6 237 rfl rfl) ⟨Nat.le_of_ble_eq_true rfl, Nat.le_of_ble_eq_true rfl⟩ rfl rfl (by omega) (Nat.le_of_ble_eq_true rfl) dL_law_922 hw hS hl (fun H locs hw hS => ?_)
  refine lv_icmp_eq (tgt := 1370) X.1 X.2.1 dL_law_925 (by decide) (fun _ => ?_) (fun hne => absurd rfl hne)
  refine W.widen (k := cells + 5) (n := slots + 139) (by omega) (by omega) ?_
  exact K _ _ _ _ hs' hw hS
