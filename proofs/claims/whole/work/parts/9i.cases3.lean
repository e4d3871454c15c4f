-- ===== the law: cases 24 to 30 =====
set_option maxHeartbeats 4000000 in
theorem law_w24 {p : Program} {l : Launch} {e : Env} {s : State} {m : MethodId} {below : List Frame} {meth : Method} {c : Code} {b : Nat} {D : va_G} {E : Nat → ClassId} {ζ : XZ} {Q : State → Prop} (X : XC (l, D, E, 1, ζ) room_1 4 (p, e, s, m, #[Value.ref b], below, meth, c, Q, fun a => s.heap.size ≤ a) code RL) {L : Nat} {xs : Nat → Int32} (hX : va_X b L xs s s.heap) (hbl : b < s.heap.size) {a1 a2 : Nat} {hx hm : hp} (hsim : Sim hx hm) {x3 : Int32} (g1 : vp_in (x3 + 1) L) (g2 : vp_in (x3 + 2) L) (g3 : vp_in (x3 + 3) L) (g4 : vp_in (x3 + 4) L) (g5 : vp_in (x3 + 5) L) {cells slots : Nat} (hC : cells + 5 ≤ 619789) (hSl : slots + 139 ≤ 7242880) {H : Heap} {locs : List Loc} {la : Array Slot} (hw : LW D E (fun a => s.heap.size ≤ a) a1 a2 hx hm H) (hS : va_S (fun a => s.heap.size ≤ a) s.heap H locs) (hl : lv_has la 4 [(3, .int x3), (2, .ref a2), (1, .ref a1), (0, .ref b)]) (K : ∀ (H : Heap) (locs : List Loc) (hx hm : hp), Sim hx hm → LW D E (fun a => s.heap.size ≤ a) a1 a2 hx hm H → va_S (fun a => s.heap.size ≤ a) s.heap H locs → W p l e room_1 s m #[Value.ref b] below meth c H locs (cells + 5) (slots + 139) Q (F0 m 1370 la [])) : W p l e room_1 s m #[Value.ref b] below meth c H locs cells slots Q (F0 m 930 la []) := by
  obtain ⟨hx', hm', r, f1, f2, hs'⟩ := s_book hsim (xs (x3 + 1).toNatClampNeg) (xs (x3 + 2).toNatClampNeg)
  refine lv_aload_n X.1 X.2.1 dL_law_930 rfl (lv_at hl 2 rfl) ?_
  refine lv_aload_n X.1 X.2.1 dL_law_931 rfl (lv_at hl 3 rfl) ?_
  refine lv_iload_n X.1 X.2.1 dL_law_932 rfl (lv_at hl 0 rfl) ?_
  refine lv_iconst (v := 1) X.1 X.2.1 dL_law_933 (by decide) ?_
  refine lv_iadd X.1 X.2.1 dL_law_934 ?_
  refine va_sld X.1 X.2.1 hX hbl (Nat.not_le.mpr hbl) hS g1 dL_law_935 ?_
  refine lv_aload_n X.1 X.2.1 dL_law_936 rfl (lv_at hl 3 rfl) ?_
  refine lv_iload_n X.1 X.2.1 dL_law_937 rfl (lv_at hl 0 rfl) ?_
  refine lv_iconst (v := 2) X.1 X.2.1 dL_law_938 (by decide) ?_
  refine lv_iadd X.1 X.2.1 dL_law_939 ?_
  refine va_sld X.1 X.2.1 hX hbl (Nat.not_le.mpr hbl) hS g2 dL_law_940 ?_
  refine lc_X X [.int (xs (x3 + 1).toNatClampNeg), .int (xs (x3 + 2).toNatClampNeg)] [] (r := .int r) (mc := 0) (ms := 0) (fun L q => k_X11_book (ω := (l, D, E, 1, ζ)) rfl f1) mt_X11_book (mT_4 9 rfl rfl) ⟨Nat.le_of_ble_eq_true rfl, Nat.le_of_ble_eq_true rfl⟩ rfl rfl (by omega) (Nat.le_of_ble_eq_true rfl) dL_law_941 hw hS hl (fun H locs hw hS => ?_)
  refine lv_aload_n X.1 X.2.1 dL_law_944 rfl (lv_at hl 1 rfl) ?_
  refine lv_aload_n X.1 X.2.1 dL_law_945 rfl (lv_at hl 3 rfl) ?_
  refine lv_iload_n X.1 X.2.1 dL_law_946 rfl (lv_at hl 0 rfl) ?_
  refine lv_iconst (v := 1) X.1 X.2.1 dL_law_947 (by decide) ?_
  refine lv_iadd X.1 X.2.1 dL_law_948 ?_
  refine va_sld X.1 X.2.1 hX hbl (Nat.not_le.mpr hbl) hS g1 dL_law_949 ?_
  refine lv_aload_n X.1 X.2.1 dL_law_950 rfl (lv_at hl 3 rfl) ?_
  refine lv_iload_n X.1 X.2.1 dL_law_951 rfl (lv_at hl 0 rfl) ?_
  refine lv_iconst (v := 2) X.1 X.2.1 dL_law_952 (by decide) ?_
  refine lv_iadd X.1 X.2.1 dL_law_953 ?_
  refine va_sld X.1 X.2.1 hX hbl (Nat.not_le.mpr hbl) hS g2 dL_law_954 ?_
  refine lc_M X [.int (xs (x3 + 1).toNatClampNeg), .int (xs (x3 + 2).toNatClampNeg)] [.int r] (r := .int r) (fun L q => k_X12_book (ω := (l, D, E, 0, ζ)) rfl f2) mt_X12_book (mT_7 1 rfl rfl) ⟨Nat.le_of_ble_eq_true rfl, Nat.le_of_ble_eq_true rfl⟩ rfl rfl (by omega) (Nat.le_of_ble_eq_true rfl) dL_law_955 hw hS hl (fun H locs hw hS => ?_)
  refine lv_icmp_eq (tgt := 1370) X.1 X.2.1 dL_law_958 (by decide) (fun _ => ?_) (fun hne => absurd rfl hne)
  refine W.widen (k := cells + 5) (n := slots + 139) (by omega) (by omega) ?_
  exact K _ _ _ _ hs' hw hS
set_option maxHeartbeats 4000000 in
theorem law_w25 {p : Program} {l : Launch} {e : Env} {s : State} {m : MethodId} {below : List Frame} {meth : Method} {c : Code} {b : Nat} {D : va_G} {E : Nat → ClassId} {ζ : XZ} {Q : State → Prop} (X : XC (l, D, E, 1, ζ) room_1 4 (p, e, s, m, #[Value.ref b], below, meth, c, Q, fun a => s.heap.size ≤ a) code RL) {L : Nat} {xs : Nat → Int32} (hX : va_X b L xs s s.heap) (hbl : b < s.heap.size) {a1 a2 : Nat} {hx hm : hp} (hsim : Sim hx hm) {x3 : Int32} (g1 : vp_in (x3 + 1) L) (g2 : vp_in (x3 + 2) L) (g3 : vp_in (x3 + 3) L) (g4 : vp_in (x3 + 4) L) (g5 : vp_in (x3 + 5) L) {cells slots : Nat} (hC : cells + 5 ≤ 619789) (hSl : slots + 139 ≤ 7242880) {H : Heap} {locs : List Loc} {la : Array Slot} (hw : LW D E (fun a => s.heap.size ≤ a) a1 a2 hx hm H) (hS : va_S (fun a => s.heap.size ≤ a) s.heap H locs) (hl : lv_has la 4 [(3, .int x3), (2, .ref a2), (1, .ref a1), (0, .ref b)]) (K : ∀ (H : Heap) (locs : List Loc) (hx hm : hp), Sim hx hm → LW D E (fun a => s.heap.size ≤ a) a1 a2 hx hm H → va_S (fun a => s.heap.size ≤ a) s.heap H locs → W p l e room_1 s m #[Value.ref b] below meth c H locs (cells + 5) (slots + 139) Q (F0 m 1370 la [])) : W p l e room_1 s m #[Value.ref b] below meth c H locs cells slots Q (F0 m 963 la []) := by
  obtain ⟨r, f1, f2⟩ := s_looked hsim 
  refine lv_aload_n X.1 X.2.1 dL_law_963 rfl (lv_at hl 2 rfl) ?_
  refine lc_X X [] [] (r := .int r) (mc := 0) (ms := 0) (fun L q => k_X11_looked (ω := (l, D, E, 1, ζ)) rfl f1) mt_X11_looked (mT_4 13 rfl rfl) ⟨Nat.le_of_ble_eq_true rfl, Nat.le_of_ble_eq_true rfl⟩ rfl rfl (by omega) (Nat.le_of_ble_eq_true rfl) dL_law_964 hw hS hl (fun H locs hw hS => ?_)
  refine lv_aload_n X.1 X.2.1 dL_law_967 rfl (lv_at hl 1 rfl) ?_
  refine lc_M X [] [.int r] (r := .int r) (fun L q => k_X12_looked (ω := (l, D, E, 0, ζ)) rfl f2) mt_X12_looked (mT_7 5 rfl rfl) ⟨Nat.le_of_ble_eq_true rfl, Nat.le_of_ble_eq_true rfl⟩ rfl rfl (by omega) (Nat.le_of_ble_eq_true rfl) dL_law_968 hw hS hl (fun H locs hw hS => ?_)
  refine lv_icmp_eq (tgt := 1370) X.1 X.2.1 dL_law_971 (by decide) (fun _ => ?_) (fun hne => absurd rfl hne)
  refine W.widen (k := cells + 5) (n := slots + 139) (by omega) (by omega) ?_
  exact K _ _ _ _ hsim hw hS
set_option maxHeartbeats 4000000 in
theorem law_w26 {p : Program} {l : Launch} {e : Env} {s : State} {m : MethodId} {below : List Frame} {meth : Method} {c : Code} {b : Nat} {D : va_G} {E : Nat → ClassId} {ζ : XZ} {Q : State → Prop} (X : XC (l, D, E, 1, ζ) room_1 4 (p, e, s, m, #[Value.ref b], below, meth, c, Q, fun a => s.heap.size ≤ a) code RL) {L : Nat} {xs : Nat → Int32} (hX : va_X b L xs s s.heap) (hbl : b < s.heap.size) {a1 a2 : Nat} {hx hm : hp} (hsim : Sim hx hm) {x3 : Int32} (g1 : vp_in (x3 + 1) L) (g2 : vp_in (x3 + 2) L) (g3 : vp_in (x3 + 3) L) (g4 : vp_in (x3 + 4) L) (g5 : vp_in (x3 + 5) L) {cells slots : Nat} (hC : cells + 5 ≤ 619789) (hSl : slots + 139 ≤ 7242880) {H : Heap} {locs : List Loc} {la : Array Slot} (hw : LW D E (fun a => s.heap.size ≤ a) a1 a2 hx hm H) (hS : va_S (fun a => s.heap.size ≤ a) s.heap H locs) (hl : lv_has la 4 [(3, .int x3), (2, .ref a2), (1, .ref a1), (0, .ref b)]) (K : ∀ (H : Heap) (locs : List Loc) (hx hm : hp), Sim hx hm → LW D E (fun a => s.heap.size ≤ a) a1 a2 hx hm H → va_S (fun a => s.heap.size ≤ a) s.heap H locs → W p l e room_1 s m #[Value.ref b] below meth c H locs (cells + 5) (slots + 139) Q (F0 m 1370 la [])) : W p l e room_1 s m #[Value.ref b] below meth c H locs cells slots Q (F0 m 976 la []) := by
  obtain ⟨r, f1, f2⟩ := s_judge hsim (xs (x3 + 1).toNatClampNeg) (xs (x3 + 2).toNatClampNeg)
  refine lv_aload_n X.1 X.2.1 dL_law_976 rfl (lv_at hl 2 rfl) ?_
  refine lv_aload_n X.1 X.2.1 dL_law_977 rfl (lv_at hl 3 rfl) ?_
  refine lv_iload_n X.1 X.2.1 dL_law_978 rfl (lv_at hl 0 rfl) ?_
  refine lv_iconst (v := 1) X.1 X.2.1 dL_law_979 (by decide) ?_
  refine lv_iadd X.1 X.2.1 dL_law_980 ?_
  refine va_sld X.1 X.2.1 hX hbl (Nat.not_le.mpr hbl) hS g1 dL_law_981 ?_
  refine lv_aload_n X.1 X.2.1 dL_law_982 rfl (lv_at hl 3 rfl) ?_
  refine lv_iload_n X.1 X.2.1 dL_law_983 rfl (lv_at hl 0 rfl) ?_
  refine lv_iconst (v := 2) X.1 X.2.1 dL_law_984 (by decide) ?_
  refine lv_iadd X.1 X.2.1 dL_law_985 ?_
  refine va_sld X.1 X.2.1 hX hbl (Nat.not_le.mpr hbl) hS g2 dL_law_986 ?_
  refine lc_X X [.int (xs (x3 + 1).toNatClampNeg), .int (xs (x3 + 2).toNatClampNeg)] [] (r := .int r) (mc := 0) (ms := 0) (fun L q => k_X11_judge (ω := (l, D, E, 1, ζ)) rfl f1) mt_X11_judge (mT_4 17 rfl rfl) ⟨Nat.le_of_ble_eq_true rfl, Nat.le_of_ble_eq_true rfl⟩ rfl rfl (by omega) (Nat.le_of_ble_eq_true rfl) dL_law_987 hw hS hl (fun H locs hw hS => ?_)
  refine lv_aload_n X.1 X.2.1 dL_law_990 rfl (lv_at hl 1 rfl) ?_
  refine lv_aload_n X.1 X.2.1 dL_law_991 rfl (lv_at hl 3 rfl) ?_
  refine lv_iload_n X.1 X.2.1 dL_law_992 rfl (lv_at hl 0 rfl) ?_
  refine lv_iconst (v := 1) X.1 X.2.1 dL_law_993 (by decide) ?_
  refine lv_iadd X.1 X.2.1 dL_law_994 ?_
  refine va_sld X.1 X.2.1 hX hbl (Nat.not_le.mpr hbl) hS g1 dL_law_995 ?_
  refine lv_aload_n X.1 X.2.1 dL_law_996 rfl (lv_at hl 3 rfl) ?_
  refine lv_iload_n X.1 X.2.1 dL_law_997 rfl (lv_at hl 0 rfl) ?_
  refine lv_iconst (v := 2) X.1 X.2.1 dL_law_998 (by decide) ?_
  refine lv_iadd X.1 X.2.1 dL_law_999 ?_
  refine va_sld X.1 X.2.1 hX hbl (Nat.not_le.mpr hbl) hS g2 dL_law_1000 ?_
  refine lc_M X [.int (xs (x3 + 1).toNatClampNeg), .int (xs (x3 + 2).toNatClampNeg)] [.int r] (r := .int r) (fun L q => k_X12_judge (ω := (l, D, E, 0, ζ)) rfl f2) mt_X12_judge (mT_7 9 rfl rfl) ⟨Nat.le_of_ble_eq_true rfl, Nat.le_of_ble_eq_true rfl⟩ rfl rfl (by omega) (Nat.le_of_ble_eq_true rfl) dL_law_1001 hw hS hl (fun H locs hw hS => ?_)
  refine lv_icmp_eq (tgt := 1370) X.1 X.2.1 dL_law_1004 (by decide) (fun _ => ?_) (fun hne => absurd rfl hne)
  refine W.widen (k := cells + 5) (n := slots + 139) (by omega) (by omega) ?_
  exact K _ _ _ _ hsim hw hS
set_option maxHeartbeats 4000000 in
theorem law_w27 {p : Program} {l : Launch} {e : Env} {s : State} {m : MethodId} {below : List Frame} {meth : Method} {c : Code} {b : Nat} {D : va_G} {E : Nat → ClassId} {ζ : XZ} {Q : State → Prop} (X : XC (l, D, E, 1, ζ) room_1 4 (p, e, s, m, #[Value.ref b], below, meth, c, Q, fun a => s.heap.size ≤ a) code RL) {L : Nat} {xs : Nat → Int32} (hX : va_X b L xs s s.heap) (hbl : b < s.heap.size) {a1 a2 : Nat} {hx hm : hp} (hsim : Sim hx hm) {x3 : Int32} (g1 : vp_in (x3 + 1) L) (g2 : vp_in (x3 + 2) L) (g3 : vp_in (x3 + 3) L) (g4 : vp_in (x3 + 4) L) (g5 : vp_in (x3 + 5) L) {cells slots : Nat} (hC : cells + 5 ≤ 619789) (hSl : slots + 139 ≤ 7242880) {H : Heap} {locs : List Loc} {la : Array Slot} (hw : LW D E (fun a => s.heap.size ≤ a) a1 a2 hx hm H) (hS : va_S (fun a => s.heap.size ≤ a) s.heap H locs) (hl : lv_has la 4 [(3, .int x3), (2, .ref a2), (1, .ref a1), (0, .ref b)]) (K : ∀ (H : Heap) (locs : List Loc) (hx hm : hp), Sim hx hm → LW D E (fun a => s.heap.size ≤ a) a1 a2 hx hm H → va_S (fun a => s.heap.size ≤ a) s.heap H locs → W p l e room_1 s m #[Value.ref b] below meth c H locs (cells + 5) (slots + 139) Q (F0 m 1370 la [])) : W p l e room_1 s m #[Value.ref b] below meth c H locs cells slots Q (F0 m 1009 la []) := by
  obtain ⟨hx', hm', r, f1, f2, hs'⟩ := s_image hsim 
  refine lv_aload_n X.1 X.2.1 dL_law_1009 rfl (lv_at hl 2 rfl) ?_
  refine lc_X X [] [] (r := .int r) (mc := 0) (ms := 0) (fun L q => k_X11_image (ω := (l, D, E, 1, ζ)) rfl f1) mt_X11_image (mT_4 28 rfl rfl) ⟨Nat.le_of_ble_eq_true rfl, Nat.le_of_ble_eq_true rfl⟩ rfl rfl (by omega) (Nat.le_of_ble_eq_true rfl) dL_law_1010 hw hS hl (fun H locs hw hS => ?_)
  refine lv_aload_n X.1 X.2.1 dL_law_1013 rfl (lv_at hl 1 rfl) ?_
  refine lc_M X [] [.int r] (r := .int r) (fun L q => k_X12_image (ω := (l, D, E, 0, ζ)) rfl f2) mt_X12_image (mT_7 17 rfl rfl) ⟨Nat.le_of_ble_eq_true rfl, Nat.le_of_ble_eq_true rfl⟩ rfl rfl (by omega) (Nat.le_of_ble_eq_true rfl) dL_law_1014 hw hS hl (fun H locs hw hS => ?_)
  refine lv_icmp_eq (tgt := 1370) X.1 X.2.1 dL_law_1017 (by decide) (fun _ => ?_) (fun hne => absurd rfl hne)
  refine W.widen (k := cells + 5) (n := slots + 139) (by omega) (by omega) ?_
  exact K _ _ _ _ hs' hw hS
set_option maxHeartbeats 4000000 in
theorem law_w28 {p : Program} {l : Launch} {e : Env} {s : State} {m : MethodId} {below : List Frame} {meth : Method} {c : Code} {b : Nat} {D : va_G} {E : Nat → ClassId} {ζ : XZ} {Q : State → Prop} (X : XC (l, D, E, 1, ζ) room_1 4 (p, e, s, m, #[Value.ref b], below, meth, c, Q, fun a => s.heap.size ≤ a) code RL) {L : Nat} {xs : Nat → Int32} (hX : va_X b L xs s s.heap) (hbl : b < s.heap.size) {a1 a2 : Nat} {hx hm : hp} (hsim : Sim hx hm) {x3 : Int32} (g1 : vp_in (x3 + 1) L) (g2 : vp_in (x3 + 2) L) (g3 : vp_in (x3 + 3) L) (g4 : vp_in (x3 + 4) L) (g5 : vp_in (x3 + 5) L) {cells slots : Nat} (hC : cells + 5 ≤ 619789) (hSl : slots + 139 ≤ 7242880) {H : Heap} {locs : List Loc} {la : Array Slot} (hw : LW D E (fun a => s.heap.size ≤ a) a1 a2 hx hm H) (hS : va_S (fun a => s.heap.size ≤ a) s.heap H locs) (hl : lv_has la 4 [(3, .int x3), (2, .ref a2), (1, .ref a1), (0, .ref b)]) (K : ∀ (H : Heap) (locs : List Loc) (hx hm : hp), Sim hx hm → LW D E (fun a => s.heap.size ≤ a) a1 a2 hx hm H → va_S (fun a => s.heap.size ≤ a) s.heap H locs → W p l e room_1 s m #[Value.ref b] below meth c H locs (cells + 5) (slots + 139) Q (F0 m 1370 la [])) : W p l e room_1 s m #[Value.ref b] below meth c H locs cells slots Q (F0 m 1022 la []) := by
  obtain ⟨hx', hm', r, f1, f2, hs'⟩ := s_undo hsim 
  refine lv_aload_n X.1 X.2.1 dL_law_1022 rfl (lv_at hl 2 rfl) ?_
  refine lc_X X [] [] (r := .int r) (mc := 0) (ms := 0) (fun L q => k_X11_undo (ω := (l, D, E, 1, ζ)) rfl f1) mt_X11_undo (mT_4 42 rfl rfl) ⟨Nat.le_of_ble_eq_true rfl, Nat.le_of_ble_eq_true rfl⟩ rfl rfl (by omega) (Nat.le_of_ble_eq_true rfl) dL_law_1023 hw hS hl (fun H locs hw hS => ?_)
  refine lv_aload_n X.1 X.2.1 dL_law_1026 rfl (lv_at hl 1 rfl) ?_
  refine lc_M X [] [.int r] (r := .int r) (fun L q => k_X12_undo (ω := (l, D, E, 0, ζ)) rfl f2) mt_X12_undo (mT_7 21 rfl rfl) ⟨Nat.le_of_ble_eq_true rfl, Nat.le_of_ble_eq_true rfl⟩ rfl rfl (by omega) (Nat.le_of_ble_eq_true rfl) dL_law_1027 hw hS hl (fun H locs hw hS => ?_)
  refine lv_icmp_eq (tgt := 1370) X.1 X.2.1 dL_law_1030 (by decide) (fun _ => ?_) (fun hne => absurd rfl hne)
  refine W.widen (k := cells + 5) (n := slots + 139) (by omega) (by omega) ?_
  exact K _ _ _ _ hs' hw hS
set_option maxHeartbeats 4000000 in
theorem law_w29 {p : Program} {l : Launch} {e : Env} {s : State} {m : MethodId} {below : List Frame} {meth : Method} {c : Code} {b : Nat} {D : va_G} {E : Nat → ClassId} {ζ : XZ} {Q : State → Prop} (X : XC (l, D, E, 1, ζ) room_1 4 (p, e, s, m, #[Value.ref b], below, meth, c, Q, fun a => s.heap.size ≤ a) code RL) {L : Nat} {xs : Nat → Int32} (hX : va_X b L xs s s.heap) (hbl : b < s.heap.size) {a1 a2 : Nat} {hx hm : hp} (hsim : Sim hx hm) {x3 : Int32} (g1 : vp_in (x3 + 1) L) (g2 : vp_in (x3 + 2) L) (g3 : vp_in (x3 + 3) L) (g4 : vp_in (x3 + 4) L) (g5 : vp_in (x3 + 5) L) {cells slots : Nat} (hC : cells + 5 ≤ 619789) (hSl : slots + 139 ≤ 7242880) {H : Heap} {locs : List Loc} {la : Array Slot} (hw : LW D E (fun a => s.heap.size ≤ a) a1 a2 hx hm H) (hS : va_S (fun a => s.heap.size ≤ a) s.heap H locs) (hl : lv_has la 4 [(3, .int x3), (2, .ref a2), (1, .ref a1), (0, .ref b)]) (K : ∀ (H : Heap) (locs : List Loc) (hx hm : hp), Sim hx hm → LW D E (fun a => s.heap.size ≤ a) a1 a2 hx hm H → va_S (fun a => s.heap.size ≤ a) s.heap H locs → W p l e room_1 s m #[Value.ref b] below meth c H locs (cells + 5) (slots + 139) Q (F0 m 1370 la [])) : W p l e room_1 s m #[Value.ref b] below meth c H locs cells slots Q (F0 m 1035 la []) := by
  obtain ⟨hx', hm', r, f1, f2, hs'⟩ := s_act hsim (xs (x3 + 1).toNatClampNeg) (xs (x3 + 2).toNatClampNeg) (xs (x3 + 3).toNatClampNeg)
  refine lv_aload_n X.1 X.2.1 dL_law_1035 rfl (lv_at hl 2 rfl) ?_
  refine lv_aload_n X.1 X.2.1 dL_law_1036 rfl (lv_at hl 3 rfl) ?_
  refine lv_iload_n X.1 X.2.1 dL_law_1037 rfl (lv_at hl 0 rfl) ?_
  refine lv_iconst (v := 1) X.1 X.2.1 dL_law_1038 (by decide) ?_
  refine lv_iadd X.1 X.2.1 dL_law_1039 ?_
  refine va_sld X.1 X.2.1 hX hbl (Nat.not_le.mpr hbl) hS g1 dL_law_1040 ?_
  refine lv_aload_n X.1 X.2.1 dL_law_1041 rfl (lv_at hl 3 rfl) ?_
  refine lv_iload_n X.1 X.2.1 dL_law_1042 rfl (lv_at hl 0 rfl) ?_
  refine lv_iconst (v := 2) X.1 X.2.1 dL_law_1043 (by decide) ?_
  refine lv_iadd X.1 X.2.1 dL_law_1044 ?_
  refine va_sld X.1 X.2.1 hX hbl (Nat.not_le.mpr hbl) hS g2 dL_law_1045 ?_
  refine lv_aload_n X.1 X.2.1 dL_law_1046 rfl (lv_at hl 3 rfl) ?_
  refine lv_iload_n X.1 X.2.1 dL_law_1047 rfl (lv_at hl 0 rfl) ?_
  refine lv_iconst (v := 3) X.1 X.2.1 dL_law_1048 (by decide) ?_
  refine lv_iadd X.1 X.2.1 dL_law_1049 ?_
  refine va_sld X.1 X.2.1 hX hbl (Nat.not_le.mpr hbl) hS g3 dL_law_1050 ?_
  refine lc_X X [.int (xs (x3 + 1).toNatClampNeg), .int (xs (x3 + 2).toNatClampNeg), .int (xs (x3 + 3).toNatClampNeg)] [] (r := .int r) (mc := 0) (ms := 0) (fun L q => k_X11_act (ω := (l, D, E, 1, ζ)) rfl f1) mt_X11_act (mT_4 46 rfl rfl) ⟨Nat.le_of_ble_eq_true rfl, Nat.le_of_ble_eq_true rfl⟩ rfl rfl (by omega) (Nat.le_of_ble_eq_true rfl) dL_law_1051 hw hS hl (fun H locs hw hS => ?_)
  refine lv_aload_n X.1 X.2.1 dL_law_1054 rfl (lv_at hl 1 rfl) ?_
  refine lv_aload_n X.1 X.2.1 dL_law_1055 rfl (lv_at hl 3 rfl) ?_
  refine lv_iload_n X.1 X.2.1 dL_law_1056 rfl (lv_at hl 0 rfl) ?_
  refine lv_iconst (v := 1) X.1 X.2.1 dL_law_1057 (by decide) ?_
  refine lv_iadd X.1 X.2.1 dL_law_1058 ?_
  refine va_sld X.1 X.2.1 hX hbl (Nat.not_le.mpr hbl) hS g1 dL_law_1059 ?_
  refine lv_aload_n X.1 X.2.1 dL_law_1060 rfl (lv_at hl 3 rfl) ?_
  refine lv_iload_n X.1 X.2.1 dL_law_1061 rfl (lv_at hl 0 rfl) ?_
  refine lv_iconst (v := 2) X.1 X.2.1 dL_law_1062 (by decide) ?_
  refine lv_iadd X.1 X.2.1 dL_law_1063 ?_
  refine va_sld X.1 X.2.1 hX hbl (Nat.not_le.mpr hbl) hS g2 dL_law_1064 ?_
  refine lv_aload_n X.1 X.2.1 dL_law_1065 rfl (lv_at hl 3 rfl) ?_
  refine lv_iload_n X.1 X.2.1 dL_law_1066 rfl (lv_at hl 0 rfl) ?_
  refine lv_iconst (v := 3) X.1 X.2.1 dL_law_1067 (by decide) ?_
  refine lv_iadd X.1 X.2.1 dL_law_1068 ?_
  refine va_sld X.1 X.2.1 hX hbl (Nat.not_le.mpr hbl) hS g3 dL_law_1069 ?_
  refine lc_M X [.int (xs (x3 + 1).toNatClampNeg), .int (xs (x3 + 2).toNatClampNeg), .int (xs (x3 + 3).toNatClampNeg)] [.int r] (r := .int r) (fun L q => k_X12_act (ω := (l, D, E, 0, ζ)) rfl f2) mt_X12_act (mT_7 25 rfl rfl) ⟨Nat.le_of_ble_eq_true rfl, Nat.le_of_ble_eq_true rfl⟩ rfl rfl (by omega) (Nat.le_of_ble_eq_true rfl) dL_law_1070 hw hS hl (fun H locs hw hS => ?_)
  refine lv_icmp_eq (tgt := 1370) X.1 X.2.1 dL_law_1073 (by decide) (fun _ => ?_) (fun hne => absurd rfl hne)
  refine W.widen (k := cells + 5) (n := slots + 139) (by omega) (by omega) ?_
  exact K _ _ _ _ hs' hw hS
set_option maxHeartbeats 4000000 in
theorem law_w30 {p : Program} {l : Launch} {e : Env} {s : State} {m : MethodId} {below : List Frame} {meth : Method} {c : Code} {b : Nat} {D : va_G} {E : Nat → ClassId} {ζ : XZ} {Q : State → Prop} (X : XC (l, D, E, 1, ζ) room_1 4 (p, e, s, m, #[Value.ref b], below, meth, c, Q, fun a => s.heap.size ≤ a) code RL) {L : Nat} {xs : Nat → Int32} (hX : va_X b L xs s s.heap) (hbl : b < s.heap.size) {a1 a2 : Nat} {hx hm : hp} (hsim : Sim hx hm) {x3 : Int32} (g1 : vp_in (x3 + 1) L) (g2 : vp_in (x3 + 2) L) (g3 : vp_in (x3 + 3) L) (g4 : vp_in (x3 + 4) L) (g5 : vp_in (x3 + 5) L) {cells slots : Nat} (hC : cells + 5 ≤ 619789) (hSl : slots + 139 ≤ 7242880) {H : Heap} {locs : List Loc} {la : Array Slot} (hw : LW D E (fun a => s.heap.size ≤ a) a1 a2 hx hm H) (hS : va_S (fun a => s.heap.size ≤ a) s.heap H locs) (hl : lv_has la 4 [(3, .int x3), (2, .ref a2), (1, .ref a1), (0, .ref b)]) (K : ∀ (H : Heap) (locs : List Loc) (hx hm : hp), Sim hx hm → LW D E (fun a => s.heap.size ≤ a) a1 a2 hx hm H → va_S (fun a => s.heap.size ≤ a) s.heap H locs → W p l e room_1 s m #[Value.ref b] below meth c H locs (cells + 5) (slots + 139) Q (F0 m 1370 la [])) : W p l e room_1 s m #[Value.ref b] below meth c H locs cells slots Q (F0 m 1078 la []) := by
  obtain ⟨r, f1, f2⟩ := s_trace hsim (xs (x3 + 1).toNatClampNeg)
  refine lv_aload_n X.1 X.2.1 dL_law_1078 rfl (lv_at hl 2 rfl) ?_
  refine lv_aload_n X.1 X.2.1 dL_law_1079 rfl (lv_at hl 3 rfl) ?_
  refine lv_iload_n X.1 X.2.1 dL_law_1080 rfl (lv_at hl 0 rfl) ?_
  refine lv_iconst (v := 1) X.1 X.2.1 dL_law_1081 (by decide) ?_
  refine lv_iadd X.1 X.2.1 dL_law_1082 ?_
  refine va_sld X.1 X.2.1 hX hbl (Nat.not_le.mpr hbl) hS g1 dL_law_1083 ?_
  refine lc_X X [.int (xs (x3 + 1).toNatClampNeg)] [] (r := .int r) (mc := 0) (ms := 0) (fun L q => k_X11_trace (ω := (l, D, E, 1, ζ)) rfl f1) mt_X11_trace (mT_4 214 rfl rfl) ⟨Nat.le_of_ble_eq_true rfl, Nat.le_of_ble_eq_true rfl⟩ rfl rfl (by omega) (Nat.le_of_ble_eq_true rfl) dL_law_1084 hw hS hl (fun H locs hw hS => ?_)
  refine lv_aload_n X.1 X.2.1 dL_law_1087 rfl (lv_at hl 1 rfl) ?_
  refine lv_aload_n X.1 X.2.1 dL_law_1088 rfl (lv_at hl 3 rfl) ?_
  refine lv_iload_n X.1 X.2.1 dL_law_1089 rfl (lv_at hl 0 rfl) ?_
  refine lv_iconst (v := 1) X.1 X.2.1 dL_law_1090 (by decide) ?_
  refine lv_iadd X.1 X.2.1 dL_law_1091 ?_
  refine va_sld X.1 X.2.1 hX hbl (Nat.not_le.mpr hbl) hS g1 dL_law_1092 ?_
  refine lc_M X [.int (xs (x3 + 1).toNatClampNeg)] [.int r] (r := .int r) (fun L q => k_X12_trace (ω := (l, D, E, 0, ζ)) rfl f2) mt_X12_trace (mT_7 61 rfl rfl) ⟨Nat.le_of_ble_eq_true rfl, Nat.le_of_ble_eq_true rfl⟩ rfl rfl (by omega) (Nat.le_of_ble_eq_true rfl) dL_law_1093 hw hS hl (fun H locs hw hS => ?_)
  refine lv_icmp_eq (tgt := 1370) X.1 X.2.1 dL_law_1096 (by decide) (fun _ => ?_) (fun hne => absurd rfl hne)
  refine W.widen (k := cells + 5) (n := slots + 139) (by omega) (by omega) ?_
  exact K _ _ _ _ hsim hw hS
