-- ===== the law: cases 31 to 36 =====
set_option maxHeartbeats 4000000 in
theorem law_w31 {p : Program} {l : Launch} {e : Env} {s : State} {m : MethodId} {below : List Frame} {meth : Method} {c : Code} {b : Nat} {D : va_G} {E : Nat → ClassId} {ζ : XZ} {Q : State → Prop} (X : XC (l, D, E, 1, ζ) room_1 4 (p, e, s, m, #[Value.ref b], below, meth, c, Q, fun a => s.heap.size ≤ a) code RL) {L : Nat} {xs : Nat → Int32} (hX : va_X b L xs s s.heap) (hbl : b < s.heap.size) {a1 a2 : Nat} {hx hm : hp} (hsim : Sim hx hm) {x3 : Int32} (g1 : vp_in (x3 + 1) L) (g2 : vp_in (x3 + 2) L) (g3 : vp_in (x3 + 3) L) (g4 : vp_in (x3 + 4) L) (g5 : vp_in (x3 + 5) L) {cells slots : Nat} (hC : cells + 5 ≤ 619789) (hSl : slots + 139 ≤ 7242880) {H : Heap} {locs : List Loc} {la : Array Slot} (hw : LW D E (fun a => s.heap.size ≤ a) a1 a2 hx hm H) (hS : va_S (fun a => s.heap.size ≤ a) s.heap H locs) (hl : lv_has la 4 [(3, .int x3), (2, .ref a2), (1, .ref a1), (0, .ref b)]) (K : ∀ (H : Heap) (locs : List Loc) (hx hm : hp), Sim hx hm → LW D E (fun a => s.heap.size ≤ a) a1 a2 hx hm H → va_S (fun a => s.heap.size ≤ a) s.heap H locs → W p l e room_1 s m #[Value.ref b] below meth c H locs (cells + 5) (slots + 139) Q (F0 m 1370 la [])) : W p l e room_1 s m #[Value.ref b] below meth c H locs cells slots Q (F0 m 1101 la []) := by
  obtain ⟨r, f1, f2⟩ := s_taken hsim (xs (x3 + 1).toNatClampNeg) (xs (x3 + 2).toNatClampNeg)
  refine lv_aload_n X.1 X.2.1 dL_law_1101 rfl (lv_at hl 2 rfl) ?_
  refine lv_aload_n X.1 X.2.1 dL_law_1102 rfl (lv_at hl 3 rfl) ?_
  refine lv_iload_n X.1 X.2.1 dL_law_1103 rfl (lv_at hl 0 rfl) ?_
  refine lv_iconst (v := 1) X.1 X.2.1 dL_law_1104 (by decide) ?_
  refine lv_iadd X.1 X.2.1 dL_law_1105 ?_
  refine va_sld X.1 X.2.1 hX hbl (Nat.not_le.mpr hbl) hS g1 dL_law_1106 ?_
  refine lv_aload_n X.1 X.2.1 dL_law_1107 rfl (lv_at hl 3 rfl) ?_
  refine lv_iload_n X.1 X.2.1 dL_law_1108 rfl (lv_at hl 0 rfl) ?_
  refine lv_iconst (v := 2) X.1 X.2.1 dL_law_1109 (by decide) ?_
  refine lv_iadd X.1 X.2.1 dL_law_1110 ?_
  refine va_sld X.1 X.2.1 hX hbl (Nat.not_le.mpr hbl) hS g2 dL_law_1111 ?_
  refine lc_X X [.int (xs (x3 + 1).toNatClampNeg), .int (xs (x3 + 2).toNatClampNeg)] [] (r := .int r) (mc := 0) (ms := 0) (fun L q => k_X11_taken (ω := (l, D, E, 1, ζ)) rfl f1) mt_X11_taken (mT_4 235 rfl rfl) ⟨Nat.le_of_ble_eq_true rfl, Nat.le_of_ble_eq_true rfl⟩ rfl rfl (by omega) (Nat.le_of_ble_eq_true rfl) dL_law_1112 hw hS hl (fun H locs hw hS => ?_)
  refine lv_aload_n X.1 X.2.1 dL_law_1115 rfl (lv_at hl 1 rfl) ?_
  refine lv_aload_n X.1 X.2.1 dL_law_1116 rfl (lv_at hl 3 rfl) ?_
  refine lv_iload_n X.1 X.2.1 dL_law_1117 rfl (lv_at hl 0 rfl) ?_
  refine lv_iconst (v := 1) X.1 X.2.1 dL_law_1118 (by decide) ?_
  refine lv_iadd X.1 X.2.1 dL_law_1119 ?_
  refine va_sld X.1 X.2.1 hX hbl (Nat.not_le.mpr hbl) hS g1 dL_law_1120 ?_
  refine lv_aload_n X.1 X.2.1 dL_law_1121 rfl (lv_at hl 3 rfl) ?_
  refine lv_iload_n X.1 X.2.1 dL_law_1122 rfl (lv_at hl 0 rfl) ?_
  refine lv_iconst (v := 2) X.1 X.2.1 dL_law_1123 (by decide) ?_
  refine lv_iadd X.1 X.2.1 dL_law_1124 ?_
  refine va_sld X.1 X.2.1 hX hbl (Nat.not_le.mpr hbl) hS g2 dL_law_1125 ?_
  refine lc_M X [.int (xs (x3 + 1).toNatClampNeg), .int (xs (x3 + 2).toNatClampNeg)] [.int r] (r := .int r) (fun L q => k_X12_taken (ω := (l, D, E, 0, ζ)) rfl f2) mt_X12_taken (mT_7 65 rfl rfl) ⟨Nat.le_of_ble_eq_true rfl, Nat.le_of_ble_eq_true rfl⟩ rfl rfl (by omega) (Nat.le_of_ble_eq_true rfl) dL_law_1126 hw hS hl (fun H locs hw hS => ?_)
  refine lv_icmp_eq (tgt := 1370) X.1 X.2.1 dL_law_1129 (by decide) (fun _ => ?_) (fun hne => absurd rfl hne)
  refine W.widen (k := cells + 5) (n := slots + 139) (by omega) (by omega) ?_
  exact K _ _ _ _ hsim hw hS
set_option maxHeartbeats 4000000 in
theorem law_w32 {p : Program} {l : Launch} {e : Env} {s : State} {m : MethodId} {below : List Frame} {meth : Method} {c : Code} {b : Nat} {D : va_G} {E : Nat → ClassId} {ζ : XZ} {Q : State → Prop} (X : XC (l, D, E, 1, ζ) room_1 4 (p, e, s, m, #[Value.ref b], below, meth, c, Q, fun a => s.heap.size ≤ a) code RL) {L : Nat} {xs : Nat → Int32} (hX : va_X b L xs s s.heap) (hbl : b < s.heap.size) {a1 a2 : Nat} {hx hm : hp} (hsim : Sim hx hm) {x3 : Int32} (g1 : vp_in (x3 + 1) L) (g2 : vp_in (x3 + 2) L) (g3 : vp_in (x3 + 3) L) (g4 : vp_in (x3 + 4) L) (g5 : vp_in (x3 + 5) L) {cells slots : Nat} (hC : cells + 5 ≤ 619789) (hSl : slots + 139 ≤ 7242880) {H : Heap} {locs : List Loc} {la : Array Slot} (hw : LW D E (fun a => s.heap.size ≤ a) a1 a2 hx hm H) (hS : va_S (fun a => s.heap.size ≤ a) s.heap H locs) (hl : lv_has la 4 [(3, .int x3), (2, .ref a2), (1, .ref a1), (0, .ref b)]) (K : ∀ (H : Heap) (locs : List Loc) (hx hm : hp), Sim hx hm → LW D E (fun a => s.heap.size ≤ a) a1 a2 hx hm H → va_S (fun a => s.heap.size ≤ a) s.heap H locs → W p l e room_1 s m #[Value.ref b] below meth c H locs (cells + 5) (slots + 139) Q (F0 m 1370 la [])) : W p l e room_1 s m #[Value.ref b] below meth c H locs cells slots Q (F0 m 1134 la []) := by
  obtain ⟨r, f1, f2⟩ := s_count hsim (xs (x3 + 1).toNatClampNeg)
  refine lv_aload_n X.1 X.2.1 dL_law_1134 rfl (lv_at hl 2 rfl) ?_
  refine lv_aload_n X.1 X.2.1 dL_law_1135 rfl (lv_at hl 3 rfl) ?_
  refine lv_iload_n X.1 X.2.1 dL_law_1136 rfl (lv_at hl 0 rfl) ?_
  refine lv_iconst (v := 1) X.1 X.2.1 dL_law_1137 (by decide) ?_
  refine lv_iadd X.1 X.2.1 dL_law_1138 ?_
  refine va_sld X.1 X.2.1 hX hbl (Nat.not_le.mpr hbl) hS g1 dL_law_1139 ?_
  refine lc_X X [.int (xs (x3 + 1).toNatClampNeg)] [] (r := .int r) (mc := 0) (ms := 0) (fun L q => k_X11_count (ω := (l, D, E, 1, ζ)) rfl f1) mt_X11_count (mT_5 2 rfl rfl) ⟨Nat.le_of_ble_eq_true rfl, Nat.le_of_ble_eq_true rfl⟩ rfl rfl (by omega) (Nat.le_of_ble_eq_true rfl) dL_law_1140 hw hS hl (fun H locs hw hS => ?_)
  refine lv_aload_n X.1 X.2.1 dL_law_1143 rfl (lv_at hl 1 rfl) ?_
  refine lv_aload_n X.1 X.2.1 dL_law_1144 rfl (lv_at hl 3 rfl) ?_
  refine lv_iload_n X.1 X.2.1 dL_law_1145 rfl (lv_at hl 0 rfl) ?_
  refine lv_iconst (v := 1) X.1 X.2.1 dL_law_1146 (by decide) ?_
  refine lv_iadd X.1 X.2.1 dL_law_1147 ?_
  refine va_sld X.1 X.2.1 hX hbl (Nat.not_le.mpr hbl) hS g1 dL_law_1148 ?_
  refine lc_M X [.int (xs (x3 + 1).toNatClampNeg)] [.int r] (r := .int r) (fun L q => k_X12_count (ω := (l, D, E, 0, ζ)) rfl f2) mt_X12_count (mT_7 69 rfl rfl) ⟨Nat.le_of_ble_eq_true rfl, Nat.le_of_ble_eq_true rfl⟩ rfl rfl (by omega) (Nat.le_of_ble_eq_true rfl) dL_law_1149 hw hS hl (fun H locs hw hS => ?_)
  refine lv_icmp_eq (tgt := 1370) X.1 X.2.1 dL_law_1152 (by decide) (fun _ => ?_) (fun hne => absurd rfl hne)
  refine W.widen (k := cells + 5) (n := slots + 139) (by omega) (by omega) ?_
  exact K _ _ _ _ hsim hw hS
set_option maxHeartbeats 4000000 in
theorem law_w33 {p : Program} {l : Launch} {e : Env} {s : State} {m : MethodId} {below : List Frame} {meth : Method} {c : Code} {b : Nat} {D : va_G} {E : Nat → ClassId} {ζ : XZ} {Q : State → Prop} (X : XC (l, D, E, 1, ζ) room_1 4 (p, e, s, m, #[Value.ref b], below, meth, c, Q, fun a => s.heap.size ≤ a) code RL) {L : Nat} {xs : Nat → Int32} (hX : va_X b L xs s s.heap) (hbl : b < s.heap.size) {a1 a2 : Nat} {hx hm : hp} (hsim : Sim hx hm) {x3 : Int32} (g1 : vp_in (x3 + 1) L) (g2 : vp_in (x3 + 2) L) (g3 : vp_in (x3 + 3) L) (g4 : vp_in (x3 + 4) L) (g5 : vp_in (x3 + 5) L) {cells slots : Nat} (hC : cells + 5 ≤ 619789) (hSl : slots + 139 ≤ 7242880) {H : Heap} {locs : List Loc} {la : Array Slot} (hw : LW D E (fun a => s.heap.size ≤ a) a1 a2 hx hm H) (hS : va_S (fun a => s.heap.size ≤ a) s.heap H locs) (hl : lv_has la 4 [(3, .int x3), (2, .ref a2), (1, .ref a1), (0, .ref b)]) (K : ∀ (H : Heap) (locs : List Loc) (hx hm : hp), Sim hx hm → LW D E (fun a => s.heap.size ≤ a) a1 a2 hx hm H → va_S (fun a => s.heap.size ≤ a) s.heap H locs → W p l e room_1 s m #[Value.ref b] below meth c H locs (cells + 5) (slots + 139) Q (F0 m 1370 la [])) : W p l e room_1 s m #[Value.ref b] below meth c H locs cells slots Q (F0 m 1157 la []) := by
  obtain ⟨hx', hm', r, f1, f2, hs'⟩ := s_tape hsim (xs (x3 + 1).toNatClampNeg) (xs (x3 + 2).toNatClampNeg) (xs (x3 + 3).toNatClampNeg)
  refine lv_aload_n X.1 X.2.1 dL_law_1157 rfl (lv_at hl 2 rfl) ?_
  refine lv_aload_n X.1 X.2.1 dL_law_1158 rfl (lv_at hl 3 rfl) ?_
  refine lv_iload_n X.1 X.2.1 dL_law_1159 rfl (lv_at hl 0 rfl) ?_
  refine lv_iconst (v := 1) X.1 X.2.1 dL_law_1160 (by decide) ?_
  refine lv_iadd X.1 X.2.1 dL_law_1161 ?_
  refine va_sld X.1 X.2.1 hX hbl (Nat.not_le.mpr hbl) hS g1 dL_law_1162 ?_
  refine lv_aload_n X.1 X.2.1 dL_law_1163 rfl (lv_at hl 3 rfl) ?_
  refine lv_iload_n X.1 X.2.1 dL_law_1164 rfl (lv_at hl 0 rfl) ?_
  refine lv_iconst (v := 2) X.1 X.2.1 dL_law_1165 (by decide) ?_
  refine lv_iadd X.1 X.2.1 dL_law_1166 ?_
  refine va_sld X.1 X.2.1 hX hbl (Nat.not_le.mpr hbl) hS g2 dL_law_1167 ?_
  refine lv_aload_n X.1 X.2.1 dL_law_1168 rfl (lv_at hl 3 rfl) ?_
  refine lv_iload_n X.1 X.2.1 dL_law_1169 rfl (lv_at hl 0 rfl) ?_
  refine lv_iconst (v := 3) X.1 X.2.1 dL_law_1170 (by decide) ?_
  refine lv_iadd X.1 X.2.1 dL_law_1171 ?_
  refine va_sld X.1 X.2.1 hX hbl (Nat.not_le.mpr hbl) hS g3 dL_law_1172 ?_
  refine lc_X X [.int (xs (x3 + 1).toNatClampNeg), .int (xs (x3 + 2).toNatClampNeg), .int (xs (x3 + 3).toNatClampNeg)] [] (r := .int r) (mc := 0) (ms := 0) (fun L q => k_X11_tape (ω := (l, D, E, 1, ζ)) rfl f1) mt_X11_tape (mT_5 6 rfl rfl) ⟨Nat.le_of_ble_eq_true rfl, Nat.le_of_ble_eq_true rfl⟩ rfl rfl (by omega) (Nat.le_of_ble_eq_true rfl) dL_law_1173 hw hS hl (fun H locs hw hS => ?_)
  refine lv_aload_n X.1 X.2.1 dL_law_1176 rfl (lv_at hl 1 rfl) ?_
  refine lv_aload_n X.1 X.2.1 dL_law_1177 rfl (lv_at hl 3 rfl) ?_
  refine lv_iload_n X.1 X.2.1 dL_law_1178 rfl (lv_at hl 0 rfl) ?_
  refine lv_iconst (v := 1) X.1 X.2.1 dL_law_1179 (by decide) ?_
  refine lv_iadd X.1 X.2.1 dL_law_1180 ?_
  refine va_sld X.1 X.2.1 hX hbl (Nat.not_le.mpr hbl) hS g1 dL_law_1181 ?_
  refine lv_aload_n X.1 X.2.1 dL_law_1182 rfl (lv_at hl 3 rfl) ?_
  refine lv_iload_n X.1 X.2.1 dL_law_1183 rfl (lv_at hl 0 rfl) ?_
  refine lv_iconst (v := 2) X.1 X.2.1 dL_law_1184 (by decide) ?_
  refine lv_iadd X.1 X.2.1 dL_law_1185 ?_
  refine va_sld X.1 X.2.1 hX hbl (Nat.not_le.mpr hbl) hS g2 dL_law_1186 ?_
  refine lv_aload_n X.1 X.2.1 dL_law_1187 rfl (lv_at hl 3 rfl) ?_
  refine lv_iload_n X.1 X.2.1 dL_law_1188 rfl (lv_at hl 0 rfl) ?_
  refine lv_iconst (v := 3) X.1 X.2.1 dL_law_1189 (by decide) ?_
  refine lv_iadd X.1 X.2.1 dL_law_1190 ?_
  refine va_sld X.1 X.2.1 hX hbl (Nat.not_le.mpr hbl) hS g3 dL_law_1191 ?_
  refine lc_M X [.int (xs (x3 + 1).toNatClampNeg), .int (xs (x3 + 2).toNatClampNeg), .int (xs (x3 + 3).toNatClampNeg)] [.int r] (r := .int r) (fun L q => k_X12_tape (ω := (l, D, E, 0, ζ)) rfl f2) mt_X12_tape (mT_7 73 rfl rfl) ⟨Nat.le_of_ble_eq_true rfl, Nat.le_of_ble_eq_true rfl⟩ rfl rfl (by omega) (Nat.le_of_ble_eq_true rfl) dL_law_1192 hw hS hl (fun H locs hw hS => ?_)
  refine lv_icmp_eq (tgt := 1370) X.1 X.2.1 dL_law_1195 (by decide) (fun _ => ?_) (fun hne => absurd rfl hne)
  refine W.widen (k := cells + 5) (n := slots + 139) (by omega) (by omega) ?_
  exact K _ _ _ _ hs' hw hS
set_option maxHeartbeats 4000000 in
theorem law_w34 {p : Program} {l : Launch} {e : Env} {s : State} {m : MethodId} {below : List Frame} {meth : Method} {c : Code} {b : Nat} {D : va_G} {E : Nat → ClassId} {ζ : XZ} {Q : State → Prop} (X : XC (l, D, E, 1, ζ) room_1 4 (p, e, s, m, #[Value.ref b], below, meth, c, Q, fun a => s.heap.size ≤ a) code RL) {L : Nat} {xs : Nat → Int32} (hX : va_X b L xs s s.heap) (hbl : b < s.heap.size) {a1 a2 : Nat} {hx hm : hp} (hsim : Sim hx hm) {x3 : Int32} (g1 : vp_in (x3 + 1) L) (g2 : vp_in (x3 + 2) L) (g3 : vp_in (x3 + 3) L) (g4 : vp_in (x3 + 4) L) (g5 : vp_in (x3 + 5) L) {cells slots : Nat} (hC : cells + 5 ≤ 619789) (hSl : slots + 139 ≤ 7242880) {H : Heap} {locs : List Loc} {la : Array Slot} (hw : LW D E (fun a => s.heap.size ≤ a) a1 a2 hx hm H) (hS : va_S (fun a => s.heap.size ≤ a) s.heap H locs) (hl : lv_has la 4 [(3, .int x3), (2, .ref a2), (1, .ref a1), (0, .ref b)]) (K : ∀ (H : Heap) (locs : List Loc) (hx hm : hp), Sim hx hm → LW D E (fun a => s.heap.size ≤ a) a1 a2 hx hm H → va_S (fun a => s.heap.size ≤ a) s.heap H locs → W p l e room_1 s m #[Value.ref b] below meth c H locs (cells + 5) (slots + 139) Q (F0 m 1370 la [])) : W p l e room_1 s m #[Value.ref b] below meth c H locs cells slots Q (F0 m 1200 la []) := by
  obtain ⟨hx', hm', r, f1, f2, hs'⟩ := s_item hsim (xs (x3 + 1).toNatClampNeg) (xs (x3 + 2).toNatClampNeg) ((((xs (x3 + 3).toNatClampNeg)).toInt64 <<< (((32 : Int32)).toInt64 &&& 63)) ||| (((xs (x3 + 4).toNatClampNeg)).toInt64 &&& (4294967295 : Int64)))
  refine lv_aload_n X.1 X.2.1 dL_law_1200 rfl (lv_at hl 2 rfl) ?_
  refine lv_aload_n X.1 X.2.1 dL_law_1201 rfl (lv_at hl 3 rfl) ?_
  refine lv_iload_n X.1 X.2.1 dL_law_1202 rfl (lv_at hl 0 rfl) ?_
  refine lv_iconst (v := 1) X.1 X.2.1 dL_law_1203 (by decide) ?_
  refine lv_iadd X.1 X.2.1 dL_law_1204 ?_
  refine va_sld X.1 X.2.1 hX hbl (Nat.not_le.mpr hbl) hS g1 dL_law_1205 ?_
  refine lv_aload_n X.1 X.2.1 dL_law_1206 rfl (lv_at hl 3 rfl) ?_
  refine lv_iload_n X.1 X.2.1 dL_law_1207 rfl (lv_at hl 0 rfl) ?_
  refine lv_iconst (v := 2) X.1 X.2.1 dL_law_1208 (by decide) ?_
  refine lv_iadd X.1 X.2.1 dL_law_1209 ?_
  refine va_sld X.1 X.2.1 hX hbl (Nat.not_le.mpr hbl) hS g2 dL_law_1210 ?_
  refine lv_aload_n X.1 X.2.1 dL_law_1211 rfl (lv_at hl 3 rfl) ?_
  refine lv_iload_n X.1 X.2.1 dL_law_1212 rfl (lv_at hl 0 rfl) ?_
  refine lv_iconst (v := 3) X.1 X.2.1 dL_law_1213 (by decide) ?_
  refine lv_iadd X.1 X.2.1 dL_law_1214 ?_
  refine va_sld X.1 X.2.1 hX hbl (Nat.not_le.mpr hbl) hS g3 dL_law_1215 ?_
  refine lv_i2l X.1 X.2.1 dL_law_1216 rfl ?_
  refine lv_bipush (v := 32) X.1 X.2.1 dL_law_1217 (by decide) ?_
  refine lv_lshl X.1 X.2.1 dL_law_1219 rfl ?_
  refine lv_aload_n X.1 X.2.1 dL_law_1220 rfl (lv_at hl 3 rfl) ?_
  refine lv_iload_n X.1 X.2.1 dL_law_1221 rfl (lv_at hl 0 rfl) ?_
  refine lv_iconst (v := 4) X.1 X.2.1 dL_law_1222 (by decide) ?_
  refine lv_iadd X.1 X.2.1 dL_law_1223 ?_
  refine va_sld X.1 X.2.1 hX hbl (Nat.not_le.mpr hbl) hS g4 dL_law_1224 ?_
  refine lv_i2l X.1 X.2.1 dL_law_1225 rfl ?_
  refine lv_ldc2 (v := 4294967295) X.1 X.2.1 X.2.2.2.1 (X.2.2.2.2.1 _ (mT_7 93 rfl rfl)) dL_law_1226 ?_
  refine lv_land X.1 X.2.1 dL_law_1229 ?_
  refine lv_lor X.1 X.2.1 dL_law_1230 ?_
  refine lc_X X [.int (xs (x3 + 1).toNatClampNeg), .int (xs (x3 + 2).toNatClampNeg), .long ((((xs (x3 + 3).toNatClampNeg)).toInt64 <<< (((32 : Int32)).toInt64 &&& 63)) ||| (((xs (x3 + 4).toNatClampNeg)).toInt64 &&& (4294967295 : Int64)))] [] (r := .int r) (mc := 0) (ms := 0) (fun L q => k_X11_item (ω := (l, D, E, 1, ζ)) rfl f1) mt_X11_item (mT_5 14 rfl rfl) ⟨Nat.le_of_ble_eq_true rfl, Nat.le_of_ble_eq_true rfl⟩ rfl rfl (by omega) (Nat.le_of_ble_eq_true rfl) dL_law_1231 hw hS hl (fun H locs hw hS => ?_)
  refine lv_aload_n X.1 X.2.1 dL_law_1234 rfl (lv_at hl 1 rfl) ?_
  refine lv_aload_n X.1 X.2.1 dL_law_1235 rfl (lv_at hl 3 rfl) ?_
  refine lv_iload_n X.1 X.2.1 dL_law_1236 rfl (lv_at hl 0 rfl) ?_
  refine lv_iconst (v := 1) X.1 X.2.1 dL_law_1237 (by decide) ?_
  refine lv_iadd X.1 X.2.1 dL_law_1238 ?_
  refine va_sld X.1 X.2.1 hX hbl (Nat.not_le.mpr hbl) hS g1 dL_law_1239 ?_
  refine lv_aload_n X.1 X.2.1 dL_law_1240 rfl (lv_at hl 3 rfl) ?_
  refine lv_iload_n X.1 X.2.1 dL_law_1241 rfl (lv_at hl 0 rfl) ?_
  refine lv_iconst (v := 2) X.1 X.2.1 dL_law_1242 (by decide) ?_
  refine lv_iadd X.1 X.2.1 dL_law_1243 ?_
  refine va_sld X.1 X.2.1 hX hbl (Nat.not_le.mpr hbl) hS g2 dL_law_1244 ?_
  refine lv_aload_n X.1 X.2.1 dL_law_1245 rfl (lv_at hl 3 rfl) ?_
  refine lv_iload_n X.1 X.2.1 dL_law_1246 rfl (lv_at hl 0 rfl) ?_
  refine lv_iconst (v := 3) X.1 X.2.1 dL_law_1247 (by decide) ?_
  refine lv_iadd X.1 X.2.1 dL_law_1248 ?_
  refine va_sld X.1 X.2.1 hX hbl (Nat.not_le.mpr hbl) hS g3 dL_law_1249 ?_
  refine lv_i2l X.1 X.2.1 dL_law_1250 rfl ?_
  refine lv_bipush (v := 32) X.1 X.2.1 dL_law_1251 (by decide) ?_
  refine lv_lshl X.1 X.2.1 dL_law_1253 rfl ?_
  refine lv_aload_n X.1 X.2.1 dL_law_1254 rfl (lv_at hl 3 rfl) ?_
  refine lv_iload_n X.1 X.2.1 dL_law_1255 rfl (lv_at hl 0 rfl) ?_
  refine lv_iconst (v := 4) X.1 X.2.1 dL_law_1256 (by decide) ?_
  refine lv_iadd X.1 X.2.1 dL_law_1257 ?_
  refine va_sld X.1 X.2.1 hX hbl (Nat.not_le.mpr hbl) hS g4 dL_law_1258 ?_
  refine lv_i2l X.1 X.2.1 dL_law_1259 rfl ?_
  refine lv_ldc2 (v := 4294967295) X.1 X.2.1 X.2.2.2.1 (X.2.2.2.2.1 _ (mT_7 93 rfl rfl)) dL_law_1260 ?_
  refine lv_land X.1 X.2.1 dL_law_1263 ?_
  refine lv_lor X.1 X.2.1 dL_law_1264 ?_
  refine lc_M X [.int (xs (x3 + 1).toNatClampNeg), .int (xs (x3 + 2).toNatClampNeg), .long ((((xs (x3 + 3).toNatClampNeg)).toInt64 <<< (((32 : Int32)).toInt64 &&& 63)) ||| (((xs (x3 + 4).toNatClampNeg)).toInt64 &&& (4294967295 : Int64)))] [.int r] (r := .int r) (fun L q => k_X12_item (ω := (l, D, E, 0, ζ)) rfl f2) mt_X12_item (mT_7 77 rfl rfl) ⟨Nat.le_of_ble_eq_true rfl, Nat.le_of_ble_eq_true rfl⟩ rfl rfl (by omega) (Nat.le_of_ble_eq_true rfl) dL_law_1265 hw hS hl (fun H locs hw hS => ?_)
  refine lv_icmp_eq (tgt := 1370) X.1 X.2.1 dL_law_1268 (by decide) (fun _ => ?_) (fun hne => absurd rfl hne)
  refine W.widen (k := cells + 5) (n := slots + 139) (by omega) (by omega) ?_
  exact K _ _ _ _ hs' hw hS
set_option maxHeartbeats 4000000 in
theorem law_w35 {p : Program} {l : Launch} {e : Env} {s : State} {m : MethodId} {below : List Frame} {meth : Method} {c : Code} {b : Nat} {D : va_G} {E : Nat → ClassId} {ζ : XZ} {Q : State → Prop} (X : XC (l, D, E, 1, ζ) room_1 4 (p, e, s, m, #[Value.ref b], below, meth, c, Q, fun a => s.heap.size ≤ a) code RL) {L : Nat} {xs : Nat → Int32} (hX : va_X b L xs s s.heap) (hbl : b < s.heap.size) {a1 a2 : Nat} {hx hm : hp} (hsim : Sim hx hm) {x3 : Int32} (g1 : vp_in (x3 + 1) L) (g2 : vp_in (x3 + 2) L) (g3 : vp_in (x3 + 3) L) (g4 : vp_in (x3 + 4) L) (g5 : vp_in (x3 + 5) L) {cells slots : Nat} (hC : cells + 5 ≤ 619789) (hSl : slots + 139 ≤ 7242880) {H : Heap} {locs : List Loc} {la : Array Slot} (hw : LW D E (fun a => s.heap.size ≤ a) a1 a2 hx hm H) (hS : va_S (fun a => s.heap.size ≤ a) s.heap H locs) (hl : lv_has la 4 [(3, .int x3), (2, .ref a2), (1, .ref a1), (0, .ref b)]) (K : ∀ (H : Heap) (locs : List Loc) (hx hm : hp), Sim hx hm → LW D E (fun a => s.heap.size ≤ a) a1 a2 hx hm H → va_S (fun a => s.heap.size ≤ a) s.heap H locs → W p l e room_1 s m #[Value.ref b] below meth c H locs (cells + 5) (slots + 139) Q (F0 m 1370 la [])) : W p l e room_1 s m #[Value.ref b] below meth c H locs cells slots Q (F0 m 1273 la []) := by
  obtain ⟨r, f1, f2⟩ := s_read hsim (xs (x3 + 1).toNatClampNeg) (xs (x3 + 2).toNatClampNeg)
  refine lv_aload_n X.1 X.2.1 dL_law_1273 rfl (lv_at hl 2 rfl) ?_
  refine lv_aload_n X.1 X.2.1 dL_law_1274 rfl (lv_at hl 3 rfl) ?_
  refine lv_iload_n X.1 X.2.1 dL_law_1275 rfl (lv_at hl 0 rfl) ?_
  refine lv_iconst (v := 1) X.1 X.2.1 dL_law_1276 (by decide) ?_
  refine lv_iadd X.1 X.2.1 dL_law_1277 ?_
  refine va_sld X.1 X.2.1 hX hbl (Nat.not_le.mpr hbl) hS g1 dL_law_1278 ?_
  refine lv_aload_n X.1 X.2.1 dL_law_1279 rfl (lv_at hl 3 rfl) ?_
  refine lv_iload_n X.1 X.2.1 dL_law_1280 rfl (lv_at hl 0 rfl) ?_
  refine lv_iconst (v := 2) X.1 X.2.1 dL_law_1281 (by decide) ?_
  refine lv_iadd X.1 X.2.1 dL_law_1282 ?_
  refine va_sld X.1 X.2.1 hX hbl (Nat.not_le.mpr hbl) hS g2 dL_law_1283 ?_
  refine lc_X X [.int (xs (x3 + 1).toNatClampNeg), .int (xs (x3 + 2).toNatClampNeg)] [] (r := .long r) (mc := 0) (ms := 0) (fun L q => k_X11_read (ω := (l, D, E, 1, ζ)) rfl f1) mt_X11_read (mT_5 21 rfl rfl) ⟨Nat.le_of_ble_eq_true rfl, Nat.le_of_ble_eq_true rfl⟩ rfl rfl (by omega) (Nat.le_of_ble_eq_true rfl) dL_law_1284 hw hS hl (fun H locs hw hS => ?_)
  refine lv_aload_n X.1 X.2.1 dL_law_1287 rfl (lv_at hl 1 rfl) ?_
  refine lv_aload_n X.1 X.2.1 dL_law_1288 rfl (lv_at hl 3 rfl) ?_
  refine lv_iload_n X.1 X.2.1 dL_law_1289 rfl (lv_at hl 0 rfl) ?_
  refine lv_iconst (v := 1) X.1 X.2.1 dL_law_1290 (by decide) ?_
  refine lv_iadd X.1 X.2.1 dL_law_1291 ?_
  refine va_sld X.1 X.2.1 hX hbl (Nat.not_le.mpr hbl) hS g1 dL_law_1292 ?_
  refine lv_aload_n X.1 X.2.1 dL_law_1293 rfl (lv_at hl 3 rfl) ?_
  refine lv_iload_n X.1 X.2.1 dL_law_1294 rfl (lv_at hl 0 rfl) ?_
  refine lv_iconst (v := 2) X.1 X.2.1 dL_law_1295 (by decide) ?_
  refine lv_iadd X.1 X.2.1 dL_law_1296 ?_
  refine va_sld X.1 X.2.1 hX hbl (Nat.not_le.mpr hbl) hS g2 dL_law_1297 ?_
  refine lc_M X [.int (xs (x3 + 1).toNatClampNeg), .int (xs (x3 + 2).toNatClampNeg)] [.long r] (r := .long r) (fun L q => k_X12_read (ω := (l, D, E, 0, ζ)) rfl f2) mt_X12_read (mT_7 85 rfl rfl) ⟨Nat.le_of_ble_eq_true rfl, Nat.le_of_ble_eq_true rfl⟩ rfl rfl (by omega) (Nat.le_of_ble_eq_true rfl) dL_law_1298 hw hS hl (fun H locs hw hS => ?_)
  refine W.lcmp X.1 X.2.1 dL_law_1301 ?_
  refine lv_if_eq (tgt := 1370) X.1 X.2.1 dL_law_1302 (by decide) (fun _ => ?_) (fun hne => absurd (lcmp_self r) hne)
  refine W.widen (k := cells + 5) (n := slots + 139) (by omega) (by omega) ?_
  exact K _ _ _ _ hsim hw hS
set_option maxHeartbeats 4000000 in
theorem law_w36 {p : Program} {l : Launch} {e : Env} {s : State} {m : MethodId} {below : List Frame} {meth : Method} {c : Code} {b : Nat} {D : va_G} {E : Nat → ClassId} {ζ : XZ} {Q : State → Prop} (X : XC (l, D, E, 1, ζ) room_1 4 (p, e, s, m, #[Value.ref b], below, meth, c, Q, fun a => s.heap.size ≤ a) code RL) {L : Nat} {xs : Nat → Int32} (hX : va_X b L xs s s.heap) (hbl : b < s.heap.size) {a1 a2 : Nat} {hx hm : hp} (hsim : Sim hx hm) {x3 : Int32} (g1 : vp_in (x3 + 1) L) (g2 : vp_in (x3 + 2) L) (g3 : vp_in (x3 + 3) L) (g4 : vp_in (x3 + 4) L) (g5 : vp_in (x3 + 5) L) {cells slots : Nat} (hC : cells + 5 ≤ 619789) (hSl : slots + 139 ≤ 7242880) {H : Heap} {locs : List Loc} {la : Array Slot} (hw : LW D E (fun a => s.heap.size ≤ a) a1 a2 hx hm H) (hS : va_S (fun a => s.heap.size ≤ a) s.heap H locs) (hl : lv_has la 4 [(3, .int x3), (2, .ref a2), (1, .ref a1), (0, .ref b)]) (K : ∀ (H : Heap) (locs : List Loc) (hx hm : hp), Sim hx hm → LW D E (fun a => s.heap.size ≤ a) a1 a2 hx hm H → va_S (fun a => s.heap.size ≤ a) s.heap H locs → W p l e room_1 s m #[Value.ref b] below meth c H locs (cells + 5) (slots + 139) Q (F0 m 1370 la [])) : W p l e room_1 s m #[Value.ref b] below meth c H locs cells slots Q (F0 m 1307 la []) := by
  obtain ⟨hx', hm', r, f1, f2, hs'⟩ := s_shift hsim (xs (x3 + 1).toNatClampNeg) (xs (x3 + 2).toNatClampNeg) (xs (x3 + 3).toNatClampNeg) (xs (x3 + 4).toNatClampNeg) (xs (x3 + 5).toNatClampNeg)
  refine lv_aload_n X.1 X.2.1 dL_law_1307 rfl (lv_at hl 2 rfl) ?_
  refine lv_aload_n X.1 X.2.1 dL_law_1308 rfl (lv_at hl 3 rfl) ?_
  refine lv_iload_n X.1 X.2.1 dL_law_1309 rfl (lv_at hl 0 rfl) ?_
  refine lv_iconst (v := 1) X.1 X.2.1 dL_law_1310 (by decide) ?_
  refine lv_iadd X.1 X.2.1 dL_law_1311 ?_
  refine va_sld X.1 X.2.1 hX hbl (Nat.not_le.mpr hbl) hS g1 dL_law_1312 ?_
  refine lv_aload_n X.1 X.2.1 dL_law_1313 rfl (lv_at hl 3 rfl) ?_
  refine lv_iload_n X.1 X.2.1 dL_law_1314 rfl (lv_at hl 0 rfl) ?_
  refine lv_iconst (v := 2) X.1 X.2.1 dL_law_1315 (by decide) ?_
  refine lv_iadd X.1 X.2.1 dL_law_1316 ?_
  refine va_sld X.1 X.2.1 hX hbl (Nat.not_le.mpr hbl) hS g2 dL_law_1317 ?_
  refine lv_aload_n X.1 X.2.1 dL_law_1318 rfl (lv_at hl 3 rfl) ?_
  refine lv_iload_n X.1 X.2.1 dL_law_1319 rfl (lv_at hl 0 rfl) ?_
  refine lv_iconst (v := 3) X.1 X.2.1 dL_law_1320 (by decide) ?_
  refine lv_iadd X.1 X.2.1 dL_law_1321 ?_
  refine va_sld X.1 X.2.1 hX hbl (Nat.not_le.mpr hbl) hS g3 dL_law_1322 ?_
  refine lv_aload_n X.1 X.2.1 dL_law_1323 rfl (lv_at hl 3 rfl) ?_
  refine lv_iload_n X.1 X.2.1 dL_law_1324 rfl (lv_at hl 0 rfl) ?_
  refine lv_iconst (v := 4) X.1 X.2.1 dL_law_1325 (by decide) ?_
  refine lv_iadd X.1 X.2.1 dL_law_1326 ?_
  refine va_sld X.1 X.2.1 hX hbl (Nat.not_le.mpr hbl) hS g4 dL_law_1327 ?_
  refine lv_aload_n X.1 X.2.1 dL_law_1328 rfl (lv_at hl 3 rfl) ?_
  refine lv_iload_n X.1 X.2.1 dL_law_1329 rfl (lv_at hl 0 rfl) ?_
  refine lv_iconst (v := 5) X.1 X.2.1 dL_law_1330 (by decide) ?_
  refine lv_iadd X.1 X.2.1 dL_law_1331 ?_
  refine va_sld X.1 X.2.1 hX hbl (Nat.not_le.mpr hbl) hS g5 dL_law_1332 ?_
  refine lc_X X [.int (xs (x3 + 1).toNatClampNeg), .int (xs (x3 + 2).toNatClampNeg), .int (xs (x3 + 3).toNatClampNeg), .int (xs (x3 + 4).toNatClampNeg), .int (xs (x3 + 5).toNatClampNeg)] [] (r := .int r) (mc := 0) (ms := 0) (fun L q => k_X11_shift (ω := (l, D, E, 1, ζ)) rfl f1) mt_X11_shift (mT_5 25 rfl rfl) ⟨Nat.le_of_ble_eq_true rfl, Nat.le_of_ble_eq_true rfl⟩ rfl rfl (by omega) (Nat.le_of_ble_eq_true rfl) dL_law_1333 hw hS hl (fun H locs hw hS => ?_)
  refine lv_aload_n X.1 X.2.1 dL_law_1336 rfl (lv_at hl 1 rfl) ?_
  refine lv_aload_n X.1 X.2.1 dL_law_1337 rfl (lv_at hl 3 rfl) ?_
  refine lv_iload_n X.1 X.2.1 dL_law_1338 rfl (lv_at hl 0 rfl) ?_
  refine lv_iconst (v := 1) X.1 X.2.1 dL_law_1339 (by decide) ?_
  refine lv_iadd X.1 X.2.1 dL_law_1340 ?_
  refine va_sld X.1 X.2.1 hX hbl (Nat.not_le.mpr hbl) hS g1 dL_law_1341 ?_
  refine lv_aload_n X.1 X.2.1 dL_law_1342 rfl (lv_at hl 3 rfl) ?_
  refine lv_iload_n X.1 X.2.1 dL_law_1343 rfl (lv_at hl 0 rfl) ?_
  refine lv_iconst (v := 2) X.1 X.2.1 dL_law_1344 (by decide) ?_
  refine lv_iadd X.1 X.2.1 dL_law_1345 ?_
  refine va_sld X.1 X.2.1 hX hbl (Nat.not_le.mpr hbl) hS g2 dL_law_1346 ?_
  refine lv_aload_n X.1 X.2.1 dL_law_1347 rfl (lv_at hl 3 rfl) ?_
  refine lv_iload_n X.1 X.2.1 dL_law_1348 rfl (lv_at hl 0 rfl) ?_
  refine lv_iconst (v := 3) X.1 X.2.1 dL_law_1349 (by decide) ?_
  refine lv_iadd X.1 X.2.1 dL_law_1350 ?_
  refine va_sld X.1 X.2.1 hX hbl (Nat.not_le.mpr hbl) hS g3 dL_law_1351 ?_
  refine lv_aload_n X.1 X.2.1 dL_law_1352 rfl (lv_at hl 3 rfl) ?_
  refine lv_iload_n X.1 X.2.1 dL_law_1353 rfl (lv_at hl 0 rfl) ?_
  refine lv_iconst (v := 4) X.1 X.2.1 dL_law_1354 (by decide) ?_
  refine lv_iadd X.1 X.2.1 dL_law_1355 ?_
  refine va_sld X.1 X.2.1 hX hbl (Nat.not_le.mpr hbl) hS g4 dL_law_1356 ?_
  refine lv_aload_n X.1 X.2.1 dL_law_1357 rfl (lv_at hl 3 rfl) ?_
  refine lv_iload_n X.1 X.2.1 dL_law_1358 rfl (lv_at hl 0 rfl) ?_
  refine lv_iconst (v := 5) X.1 X.2.1 dL_law_1359 (by decide) ?_
  refine lv_iadd X.1 X.2.1 dL_law_1360 ?_
  refine va_sld X.1 X.2.1 hX hbl (Nat.not_le.mpr hbl) hS g5 dL_law_1361 ?_
  refine lc_M X [.int (xs (x3 + 1).toNatClampNeg), .int (xs (x3 + 2).toNatClampNeg), .int (xs (x3 + 3).toNatClampNeg), .int (xs (x3 + 4).toNatClampNeg), .int (xs (x3 + 5).toNatClampNeg)] [.int r] (r := .int r) (fun L q => k_X12_shift (ω := (l, D, E, 0, ζ)) rfl f2) mt_X12_shift (mT_7 89 rfl rfl) ⟨Nat.le_of_ble_eq_true rfl, Nat.le_of_ble_eq_true rfl⟩ rfl rfl (by omega) (Nat.le_of_ble_eq_true rfl) dL_law_1362 hw hS hl (fun H locs hw hS => ?_)
  refine lv_icmp_eq (tgt := 1370) X.1 X.2.1 dL_law_1365 (by decide) (fun _ => ?_) (fun hne => absurd rfl hne)
  refine W.widen (k := cells + 5) (n := slots + 139) (by omega) (by omega) ?_
  exact K _ _ _ _ hs' hw hS
