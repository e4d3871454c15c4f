-- ===== the law: cases 0 to 7 =====
set_option maxHeartbeats 4000000 in
theorem law_w0 {p : Program} {l : Launch} {e : Env} {s : State} {m : MethodId} {below : List Frame} {meth : Method} {c : Code} {b : Nat} {D : va_G} {E : Nat → ClassId} {ζ : XZ} {Q : State → Prop} (X : XC (l, D, E, 1, ζ) room_1 4 (p, e, s, m, #[Value.ref b], below, meth, c, Q, fun a => s.heap.size ≤ a) code RL) {L : Nat} {xs : Nat → Int32} (hX : va_X b L xs s s.heap) (hbl : b < s.heap.size) {a1 a2 : Nat} {hx hm : hp} (hsim : Sim hx hm) {x3 : Int32} (g1 : vp_in (x3 + 1) L) (g2 : vp_in (x3 + 2) L) (g3 : vp_in (x3 + 3) L) (g4 : vp_in (x3 + 4) L) (g5 : vp_in (x3 + 5) L) {cells slots : Nat} (hC : cells + 5 ≤ 619789) (hSl : slots + 139 ≤ 7242880) {H : Heap} {locs : List Loc} {la : Array Slot} (hw : LW D E (fun a => s.heap.size ≤ a) a1 a2 hx hm H) (hS : va_S (fun a => s.heap.size ≤ a) s.heap H locs) (hl : lv_has la 4 [(3, .int x3), (2, .ref a2), (1, .ref a1), (0, .ref b)]) (K : ∀ (H : Heap) (locs : List Loc) (hx hm : hp), Sim hx hm → LW D E (fun a => s.heap.size ≤ a) a1 a2 hx hm H → va_S (fun a => s.heap.size ≤ a) s.heap H locs → W p l e room_1 s m #[Value.ref b] below meth c H locs (cells + 5) (slots + 139) Q (F0 m 1370 la [])) : W p l e room_1 s m #[Value.ref b] below meth c H locs cells slots Q (F0 m 196 la []) := by
  obtain ⟨hx', hm', r, f1, f2, hs'⟩ := s_word hsim (xs (x3 + 1).toNatClampNeg)
  refine lv_aload_n X.1 X.2.1 dL_law_196 rfl (lv_at hl 2 rfl) ?_
  refine lv_aload_n X.1 X.2.1 dL_law_197 rfl (lv_at hl 3 rfl) ?_
  refine lv_iload_n X.1 X.2.1 dL_law_198 rfl (lv_at hl 0 rfl) ?_
  refine lv_iconst (v := 1) X.1 X.2.1 dL_law_199 (by decide) ?_
  refine lv_iadd X.1 X.2.1 dL_law_200 ?_
  refine va_sld X.1 X.2.1 hX hbl (Nat.not_le.mpr hbl) hS g1 dL_law_201 ?_
  refine lc_X X [.int (xs (x3 + 1).toNatClampNeg)] [] (r := .int r) (mc := 0) (ms := 0) (fun L q => k_X11_word (ω := (l, D, E, 1, ζ)) rfl f1) mt_X11_word (mT_1 227 rfl rfl) ⟨Nat.le_of_ble_eq_true rfl, Nat.le_of_ble_eq_true rfl⟩ rfl rfl (by omega) (Nat.le_of_ble_eq_true rfl) dL_law_202 hw hS hl (fun H locs hw hS => ?_)
  refine lv_aload_n X.1 X.2.1 dL_law_205 rfl (lv_at hl 1 rfl) ?_
  refine lv_aload_n X.1 X.2.1 dL_law_206 rfl (lv_at hl 3 rfl) ?_
  refine lv_iload_n X.1 X.2.1 dL_law_207 rfl (lv_at hl 0 rfl) ?_
  refine lv_iconst (v := 1) X.1 X.2.1 dL_law_208 (by decide) ?_
  refine lv_iadd X.1 X.2.1 dL_law_209 ?_
  refine va_sld X.1 X.2.1 hX hbl (Nat.not_le.mpr hbl) hS g1 dL_law_210 ?_
  refine lc_M X [.int (xs (x3 + 1).toNatClampNeg)] [.int r] (r := .int r) (fun L q => k_X12_word (ω := (l, D, E, 0, ζ)) rfl f2) mt_X12_word (mT_5 224 rfl rfl) ⟨Nat.le_of_ble_eq_true rfl, Nat.le_of_ble_eq_true rfl⟩ rfl rfl (by omega) (Nat.le_of_ble_eq_true rfl) dL_law_211 hw hS hl (fun H locs hw hS => ?_)
  refine lv_icmp_eq (tgt := 1370) X.1 X.2.1 dL_law_214 (by decide) (fun _ => ?_) (fun hne => absurd rfl hne)
  refine W.widen (k := cells + 5) (n := slots + 139) (by omega) (by omega) ?_
  exact K _ _ _ _ hs' hw hS
set_option maxHeartbeats 4000000 in
theorem law_w1 {p : Program} {l : Launch} {e : Env} {s : State} {m : MethodId} {below : List Frame} {meth : Method} {c : Code} {b : Nat} {D : va_G} {E : Nat → ClassId} {ζ : XZ} {Q : State → Prop} (X : XC (l, D, E, 1, ζ) room_1 4 (p, e, s, m, #[Value.ref b], below, meth, c, Q, fun a => s.heap.size ≤ a) code RL) {L : Nat} {xs : Nat → Int32} (hX : va_X b L xs s s.heap) (hbl : b < s.heap.size) {a1 a2 : Nat} {hx hm : hp} (hsim : Sim hx hm) {x3 : Int32} (g1 : vp_in (x3 + 1) L) (g2 : vp_in (x3 + 2) L) (g3 : vp_in (x3 + 3) L) (g4 : vp_in (x3 + 4) L) (g5 : vp_in (x3 + 5) L) {cells slots : Nat} (hC : cells + 5 ≤ 619789) (hSl : slots + 139 ≤ 7242880) {H : Heap} {locs : List Loc} {la : Array Slot} (hw : LW D E (fun a => s.heap.size ≤ a) a1 a2 hx hm H) (hS : va_S (fun a => s.heap.size ≤ a) s.heap H locs) (hl : lv_has la 4 [(3, .int x3), (2, .ref a2), (1, .ref a1), (0, .ref b)]) (K : ∀ (H : Heap) (locs : List Loc) (hx hm : hp), Sim hx hm → LW D E (fun a => s.heap.size ≤ a) a1 a2 hx hm H → va_S (fun a => s.heap.size ≤ a) s.heap H locs → W p l e room_1 s m #[Value.ref b] below meth c H locs (cells + 5) (slots + 139) Q (F0 m 1370 la [])) : W p l e room_1 s m #[Value.ref b] below meth c H locs cells slots Q (F0 m 219 la []) := by
  obtain ⟨hx', hm', r, f1, f2, hs'⟩ := s_alter hsim (xs (x3 + 1).toNatClampNeg) (xs (x3 + 2).toNatClampNeg)
  refine lv_aload_n X.1 X.2.1 dL_law_219 rfl (lv_at hl 2 rfl) ?_
  refine lv_aload_n X.1 X.2.1 dL_law_220 rfl (lv_at hl 3 rfl) ?_
  refine lv_iload_n X.1 X.2.1 dL_law_221 rfl (lv_at hl 0 rfl) ?_
  refine lv_iconst (v := 1) X.1 X.2.1 dL_law_222 (by decide) ?_
  refine lv_iadd X.1 X.2.1 dL_law_223 ?_
  refine va_sld X.1 X.2.1 hX hbl (Nat.not_le.mpr hbl) hS g1 dL_law_224 ?_
  refine lv_aload_n X.1 X.2.1 dL_law_225 rfl (lv_at hl 3 rfl) ?_
  refine lv_iload_n X.1 X.2.1 dL_law_226 rfl (lv_at hl 0 rfl) ?_
  refine lv_iconst (v := 2) X.1 X.2.1 dL_law_227 (by decide) ?_
  refine lv_iadd X.1 X.2.1 dL_law_228 ?_
  refine va_sld X.1 X.2.1 hX hbl (Nat.not_le.mpr hbl) hS g2 dL_law_229 ?_
  refine lc_X X [.int (xs (x3 + 1).toNatClampNeg), .int (xs (x3 + 2).toNatClampNeg)] [] (r := .int r) (mc := 0) (ms := 0) (fun L q => k_X11_alter (ω := (l, D, E, 1, ζ)) rfl f1) mt_X11_alter (mT_2 2 rfl rfl) ⟨Nat.le_of_ble_eq_true rfl, Nat.le_of_ble_eq_true rfl⟩ rfl rfl (by omega) (Nat.le_of_ble_eq_true rfl) dL_law_230 hw hS hl (fun H locs hw hS => ?_)
  refine lv_aload_n X.1 X.2.1 dL_law_233 rfl (lv_at hl 1 rfl) ?_
  refine lv_aload_n X.1 X.2.1 dL_law_234 rfl (lv_at hl 3 rfl) ?_
  refine lv_iload_n X.1 X.2.1 dL_law_235 rfl (lv_at hl 0 rfl) ?_
  refine lv_iconst (v := 1) X.1 X.2.1 dL_law_236 (by decide) ?_
  refine lv_iadd X.1 X.2.1 dL_law_237 ?_
  refine va_sld X.1 X.2.1 hX hbl (Nat.not_le.mpr hbl) hS g1 dL_law_238 ?_
  refine lv_aload_n X.1 X.2.1 dL_law_239 rfl (lv_at hl 3 rfl) ?_
  refine lv_iload_n X.1 X.2.1 dL_law_240 rfl (lv_at hl 0 rfl) ?_
  refine lv_iconst (v := 2) X.1 X.2.1 dL_law_241 (by decide) ?_
  refine lv_iadd X.1 X.2.1 dL_law_242 ?_
  refine va_sld X.1 X.2.1 hX hbl (Nat.not_le.mpr hbl) hS g2 dL_law_243 ?_
  refine lc_M X [.int (xs (x3 + 1).toNatClampNeg), .int (xs (x3 + 2).toNatClampNeg)] [.int r] (r := .int r) (fun L q => k_X12_alter (ω := (l, D, E, 0, ζ)) rfl f2) mt_X12_alter (mT_5 236 rfl rfl) ⟨Nat.le_of_ble_eq_true rfl, Nat.le_of_ble_eq_true rfl⟩ rfl rfl (by omega) (Nat.le_of_ble_eq_true rfl) dL_law_244 hw hS hl (fun H locs hw hS => ?_)
  refine lv_icmp_eq (tgt := 1370) X.1 X.2.1 dL_law_247 (by decide) (fun _ => ?_) (fun hne => absurd rfl hne)
  refine W.widen (k := cells + 5) (n := slots + 139) (by omega) (by omega) ?_
  exact K _ _ _ _ hs' hw hS
set_option maxHeartbeats 4000000 in
theorem law_w2 {p : Program} {l : Launch} {e : Env} {s : State} {m : MethodId} {below : List Frame} {meth : Method} {c : Code} {b : Nat} {D : va_G} {E : Nat → ClassId} {ζ : XZ} {Q : State → Prop} (X : XC (l, D, E, 1, ζ) room_1 4 (p, e, s, m, #[Value.ref b], below, meth, c, Q, fun a => s.heap.size ≤ a) code RL) {L : Nat} {xs : Nat → Int32} (hX : va_X b L xs s s.heap) (hbl : b < s.heap.size) {a1 a2 : Nat} {hx hm : hp} (hsim : Sim hx hm) {x3 : Int32} (g1 : vp_in (x3 + 1) L) (g2 : vp_in (x3 + 2) L) (g3 : vp_in (x3 + 3) L) (g4 : vp_in (x3 + 4) L) (g5 : vp_in (x3 + 5) L) {cells slots : Nat} (hC : cells + 5 ≤ 619789) (hSl : slots + 139 ≤ 7242880) {H : Heap} {locs : List Loc} {la : Array Slot} (hw : LW D E (fun a => s.heap.size ≤ a) a1 a2 hx hm H) (hS : va_S (fun a => s.heap.size ≤ a) s.heap H locs) (hl : lv_has la 4 [(3, .int x3), (2, .ref a2), (1, .ref a1), (0, .ref b)]) (K : ∀ (H : Heap) (locs : List Loc) (hx hm : hp), Sim hx hm → LW D E (fun a => s.heap.size ≤ a) a1 a2 hx hm H → va_S (fun a => s.heap.size ≤ a) s.heap H locs → W p l e room_1 s m #[Value.ref b] below meth c H locs (cells + 5) (slots + 139) Q (F0 m 1370 la [])) : W p l e room_1 s m #[Value.ref b] below meth c H locs cells slots Q (F0 m 252 la []) := by
  obtain ⟨hx', hm', r, f1, f2, hs'⟩ := s_sender hsim (xs (x3 + 1).toNatClampNeg) (xs (x3 + 2).toNatClampNeg)
  refine lv_aload_n X.1 X.2.1 dL_law_252 rfl (lv_at hl 2 rfl) ?_
  refine lv_aload_n X.1 X.2.1 dL_law_253 rfl (lv_at hl 3 rfl) ?_
  refine lv_iload_n X.1 X.2.1 dL_law_254 rfl (lv_at hl 0 rfl) ?_
  refine lv_iconst (v := 1) X.1 X.2.1 dL_law_255 (by decide) ?_
  refine lv_iadd X.1 X.2.1 dL_law_256 ?_
  refine va_sld X.1 X.2.1 hX hbl (Nat.not_le.mpr hbl) hS g1 dL_law_257 ?_
  refine lv_aload_n X.1 X.2.1 dL_law_258 rfl (lv_at hl 3 rfl) ?_
  refine lv_iload_n X.1 X.2.1 dL_law_259 rfl (lv_at hl 0 rfl) ?_
  refine lv_iconst (v := 2) X.1 X.2.1 dL_law_260 (by decide) ?_
  refine lv_iadd X.1 X.2.1 dL_law_261 ?_
  refine va_sld X.1 X.2.1 hX hbl (Nat.not_le.mpr hbl) hS g2 dL_law_262 ?_
  refine lc_XN X [.int (xs (x3 + 1).toNatClampNeg), .int (xs (x3 + 2).toNatClampNeg)] [] (r := .int r) (mc := 1) (ms := 3) (fun L q => k_X11_sender (ω := (l, D, E, 1, ζ)) rfl f1) mt_X11_sender (mT_2 18 rfl rfl) ⟨Nat.le_of_ble_eq_true rfl, Nat.le_of_ble_eq_true rfl⟩ rfl rfl (by omega) (Nat.le_of_ble_eq_true rfl) dL_law_263 hw hS hl (fun H locs hw hS => ?_)
  refine lv_aload_n X.1 X.2.1 dL_law_266 rfl (lv_at hl 1 rfl) ?_
  refine lv_aload_n X.1 X.2.1 dL_law_267 rfl (lv_at hl 3 rfl) ?_
  refine lv_iload_n X.1 X.2.1 dL_law_268 rfl (lv_at hl 0 rfl) ?_
  refine lv_iconst (v := 1) X.1 X.2.1 dL_law_269 (by decide) ?_
  refine lv_iadd X.1 X.2.1 dL_law_270 ?_
  refine va_sld X.1 X.2.1 hX hbl (Nat.not_le.mpr hbl) hS g1 dL_law_271 ?_
  refine lv_aload_n X.1 X.2.1 dL_law_272 rfl (lv_at hl 3 rfl) ?_
  refine lv_iload_n X.1 X.2.1 dL_law_273 rfl (lv_at hl 0 rfl) ?_
  refine lv_iconst (v := 2) X.1 X.2.1 dL_law_274 (by decide) ?_
  refine lv_iadd X.1 X.2.1 dL_law_275 ?_
  refine va_sld X.1 X.2.1 hX hbl (Nat.not_le.mpr hbl) hS g2 dL_law_276 ?_
  refine lc_M X [.int (xs (x3 + 1).toNatClampNeg), .int (xs (x3 + 2).toNatClampNeg)] [.int r] (r := .int r) (fun L q => k_X12_sender (ω := (l, D, E, 0, ζ)) rfl f2) mt_X12_sender (mT_6 4 rfl rfl) ⟨Nat.le_of_ble_eq_true rfl, Nat.le_of_ble_eq_true rfl⟩ rfl rfl (by omega) (Nat.le_of_ble_eq_true rfl) dL_law_277 hw hS hl (fun H locs hw hS => ?_)
  refine lv_icmp_eq (tgt := 1370) X.1 X.2.1 dL_law_280 (by decide) (fun _ => ?_) (fun hne => absurd rfl hne)
  refine W.widen (k := cells + 5) (n := slots + 139) (by omega) (by omega) ?_
  exact K _ _ _ _ hs' hw hS
set_option maxHeartbeats 4000000 in
theorem law_w3 {p : Program} {l : Launch} {e : Env} {s : State} {m : MethodId} {below : List Frame} {meth : Method} {c : Code} {b : Nat} {D : va_G} {E : Nat → ClassId} {ζ : XZ} {Q : State → Prop} (X : XC (l, D, E, 1, ζ) room_1 4 (p, e, s, m, #[Value.ref b], below, meth, c, Q, fun a => s.heap.size ≤ a) code RL) {L : Nat} {xs : Nat → Int32} (hX : va_X b L xs s s.heap) (hbl : b < s.heap.size) {a1 a2 : Nat} {hx hm : hp} (hsim : Sim hx hm) {x3 : Int32} (g1 : vp_in (x3 + 1) L) (g2 : vp_in (x3 + 2) L) (g3 : vp_in (x3 + 3) L) (g4 : vp_in (x3 + 4) L) (g5 : vp_in (x3 + 5) L) {cells slots : Nat} (hC : cells + 5 ≤ 619789) (hSl : slots + 139 ≤ 7242880) {H : Heap} {locs : List Loc} {la : Array Slot} (hw : LW D E (fun a => s.heap.size ≤ a) a1 a2 hx hm H) (hS : va_S (fun a => s.heap.size ≤ a) s.heap H locs) (hl : lv_has la 4 [(3, .int x3), (2, .ref a2), (1, .ref a1), (0, .ref b)]) (K : ∀ (H : Heap) (locs : List Loc) (hx hm : hp), Sim hx hm → LW D E (fun a => s.heap.size ≤ a) a1 a2 hx hm H → va_S (fun a => s.heap.size ≤ a) s.heap H locs → W p l e room_1 s m #[Value.ref b] below meth c H locs (cells + 5) (slots + 139) Q (F0 m 1370 la [])) : W p l e room_1 s m #[Value.ref b] below meth c H locs cells slots Q (F0 m 285 la []) := by
  obtain ⟨hx', hm', r, f1, f2, hs'⟩ := s_of hsim (xs (x3 + 1).toNatClampNeg) (xs (x3 + 2).toNatClampNeg)
  refine lv_aload_n X.1 X.2.1 dL_law_285 rfl (lv_at hl 2 rfl) ?_
  refine lv_aload_n X.1 X.2.1 dL_law_286 rfl (lv_at hl 3 rfl) ?_
  refine lv_iload_n X.1 X.2.1 dL_law_287 rfl (lv_at hl 0 rfl) ?_
  refine lv_iconst (v := 1) X.1 X.2.1 dL_law_288 (by decide) ?_
  refine lv_iadd X.1 X.2.1 dL_law_289 ?_
  refine va_sld X.1 X.2.1 hX hbl (Nat.not_le.mpr hbl) hS g1 dL_law_290 ?_
  refine lv_aload_n X.1 X.2.1 dL_law_291 rfl (lv_at hl 3 rfl) ?_
  refine lv_iload_n X.1 X.2.1 dL_law_292 rfl (lv_at hl 0 rfl) ?_
  refine lv_iconst (v := 2) X.1 X.2.1 dL_law_293 (by decide) ?_
  refine lv_iadd X.1 X.2.1 dL_law_294 ?_
  refine va_sld X.1 X.2.1 hX hbl (Nat.not_le.mpr hbl) hS g2 dL_law_295 ?_
  refine lc_X X [.int (xs (x3 + 1).toNatClampNeg), .int (xs (x3 + 2).toNatClampNeg)] [] (r := .int r) (mc := 0) (ms := 0) (fun L q => k_X11_of (ω := (l, D, E, 1, ζ)) rfl f1) mt_X11_of (mT_2 114 rfl rfl) ⟨Nat.le_of_ble_eq_true rfl, Nat.le_of_ble_eq_true rfl⟩ rfl rfl (by omega) (Nat.le_of_ble_eq_true rfl) dL_law_296 hw hS hl (fun H locs hw hS => ?_)
  refine lv_aload_n X.1 X.2.1 dL_law_299 rfl (lv_at hl 1 rfl) ?_
  refine lv_aload_n X.1 X.2.1 dL_law_300 rfl (lv_at hl 3 rfl) ?_
  refine lv_iload_n X.1 X.2.1 dL_law_301 rfl (lv_at hl 0 rfl) ?_
  refine lv_iconst (v := 1) X.1 X.2.1 dL_law_302 (by decide) ?_
  refine lv_iadd X.1 X.2.1 dL_law_303 ?_
  refine va_sld X.1 X.2.1 hX hbl (Nat.not_le.mpr hbl) hS g1 dL_law_304 ?_
  refine lv_aload_n X.1 X.2.1 dL_law_305 rfl (lv_at hl 3 rfl) ?_
  refine lv_iload_n X.1 X.2.1 dL_law_306 rfl (lv_at hl 0 rfl) ?_
  refine lv_iconst (v := 2) X.1 X.2.1 dL_law_307 (by decide) ?_
  refine lv_iadd X.1 X.2.1 dL_law_308 ?_
  refine va_sld X.1 X.2.1 hX hbl (Nat.not_le.mpr hbl) hS g2 dL_law_309 ?_
  refine lc_M X [.int (xs (x3 + 1).toNatClampNeg), .int (xs (x3 + 2).toNatClampNeg)] [.int r] (r := .int r) (fun L q => k_X12_of (ω := (l, D, E, 0, ζ)) rfl f2) mt_X12_of (mT_6 80 rfl rfl) ⟨Nat.le_of_ble_eq_true rfl, Nat.le_of_ble_eq_true rfl⟩ rfl rfl (by omega) (Nat.le_of_ble_eq_true rfl) dL_law_310 hw hS hl (fun H locs hw hS => ?_)
  refine lv_icmp_eq (tgt := 1370) X.1 X.2.1 dL_law_313 (by decide) (fun _ => ?_) (fun hne => absurd rfl hne)
  refine W.widen (k := cells + 5) (n := slots + 139) (by omega) (by omega) ?_
  exact K _ _ _ _ hs' hw hS
set_option maxHeartbeats 4000000 in
theorem law_w4 {p : Program} {l : Launch} {e : Env} {s : State} {m : MethodId} {below : List Frame} {meth : Method} {c : Code} {b : Nat} {D : va_G} {E : Nat → ClassId} {ζ : XZ} {Q : State → Prop} (X : XC (l, D, E, 1, ζ) room_1 4 (p, e, s, m, #[Value.ref b], below, meth, c, Q, fun a => s.heap.size ≤ a) code RL) {L : Nat} {xs : Nat → Int32} (hX : va_X b L xs s s.heap) (hbl : b < s.heap.size) {a1 a2 : Nat} {hx hm : hp} (hsim : Sim hx hm) {x3 : Int32} (g1 : vp_in (x3 + 1) L) (g2 : vp_in (x3 + 2) L) (g3 : vp_in (x3 + 3) L) (g4 : vp_in (x3 + 4) L) (g5 : vp_in (x3 + 5) L) {cells slots : Nat} (hC : cells + 5 ≤ 619789) (hSl : slots + 139 ≤ 7242880) {H : Heap} {locs : List Loc} {la : Array Slot} (hw : LW D E (fun a => s.heap.size ≤ a) a1 a2 hx hm H) (hS : va_S (fun a => s.heap.size ≤ a) s.heap H locs) (hl : lv_has la 4 [(3, .int x3), (2, .ref a2), (1, .ref a1), (0, .ref b)]) (K : ∀ (H : Heap) (locs : List Loc) (hx hm : hp), Sim hx hm → LW D E (fun a => s.heap.size ≤ a) a1 a2 hx hm H → va_S (fun a => s.heap.size ≤ a) s.heap H locs → W p l e room_1 s m #[Value.ref b] below meth c H locs (cells + 5) (slots + 139) Q (F0 m 1370 la [])) : W p l e room_1 s m #[Value.ref b] below meth c H locs cells slots Q (F0 m 318 la []) := by
  obtain ⟨hx', hm', r, f1, f2, hs'⟩ := s_shows hsim (xs (x3 + 1).toNatClampNeg) (xs (x3 + 2).toNatClampNeg)
  refine lv_aload_n X.1 X.2.1 dL_law_318 rfl (lv_at hl 2 rfl) ?_
  refine lv_aload_n X.1 X.2.1 dL_law_319 rfl (lv_at hl 3 rfl) ?_
  refine lv_iload_n X.1 X.2.1 dL_law_320 rfl (lv_at hl 0 rfl) ?_
  refine lv_iconst (v := 1) X.1 X.2.1 dL_law_321 (by decide) ?_
  refine lv_iadd X.1 X.2.1 dL_law_322 ?_
  refine va_sld X.1 X.2.1 hX hbl (Nat.not_le.mpr hbl) hS g1 dL_law_323 ?_
  refine lv_aload_n X.1 X.2.1 dL_law_324 rfl (lv_at hl 3 rfl) ?_
  refine lv_iload_n X.1 X.2.1 dL_law_325 rfl (lv_at hl 0 rfl) ?_
  refine lv_iconst (v := 2) X.1 X.2.1 dL_law_326 (by decide) ?_
  refine lv_iadd X.1 X.2.1 dL_law_327 ?_
  refine va_sld X.1 X.2.1 hX hbl (Nat.not_le.mpr hbl) hS g2 dL_law_328 ?_
  refine lc_X X [.int (xs (x3 + 1).toNatClampNeg), .int (xs (x3 + 2).toNatClampNeg)] [] (r := .int r) (mc := 0) (ms := 0) (fun L q => k_X11_shows (ω := (l, D, E, 1, ζ)) rfl f1) mt_X11_shows (mT_2 212 rfl rfl) ⟨Nat.le_of_ble_eq_true rfl, Nat.le_of_ble_eq_true rfl⟩ rfl rfl (by omega) (Nat.le_of_ble_eq_true rfl) dL_law_329 hw hS hl (fun H locs hw hS => ?_)
  refine lv_aload_n X.1 X.2.1 dL_law_332 rfl (lv_at hl 1 rfl) ?_
  refine lv_aload_n X.1 X.2.1 dL_law_333 rfl (lv_at hl 3 rfl) ?_
  refine lv_iload_n X.1 X.2.1 dL_law_334 rfl (lv_at hl 0 rfl) ?_
  refine lv_iconst (v := 1) X.1 X.2.1 dL_law_335 (by decide) ?_
  refine lv_iadd X.1 X.2.1 dL_law_336 ?_
  refine va_sld X.1 X.2.1 hX hbl (Nat.not_le.mpr hbl) hS g1 dL_law_337 ?_
  refine lv_aload_n X.1 X.2.1 dL_law_338 rfl (lv_at hl 3 rfl) ?_
  refine lv_iload_n X.1 X.2.1 dL_law_339 rfl (lv_at hl 0 rfl) ?_
  refine lv_iconst (v := 2) X.1 X.2.1 dL_law_340 (by decide) ?_
  refine lv_iadd X.1 X.2.1 dL_law_341 ?_
  refine va_sld X.1 X.2.1 hX hbl (Nat.not_le.mpr hbl) hS g2 dL_law_342 ?_
  refine lc_M X [.int (xs (x3 + 1).toNatClampNeg), .int (xs (x3 + 2).toNatClampNeg)] [.int r] (r := .int r) (fun L q => k_X12_shows (ω := (l, D, E, 0, ζ)) rfl f2) mt_X12_shows (mT_6 144 rfl rfl) ⟨Nat.le_of_ble_eq_true rfl, Nat.le_of_ble_eq_true rfl⟩ rfl rfl (by omega) (Nat.le_of_ble_eq_true rfl) dL_law_343 hw hS hl (fun H locs hw hS => ?_)
  refine lv_icmp_eq (tgt := 1370) X.1 X.2.1 dL_law_346 (by decide) (fun _ => ?_) (fun hne => absurd rfl hne)
  refine W.widen (k := cells + 5) (n := slots + 139) (by omega) (by omega) ?_
  exact K _ _ _ _ hs' hw hS
set_option maxHeartbeats 4000000 in
theorem law_w5 {p : Program} {l : Launch} {e : Env} {s : State} {m : MethodId} {below : List Frame} {meth : Method} {c : Code} {b : Nat} {D : va_G} {E : Nat → ClassId} {ζ : XZ} {Q : State → Prop} (X : XC (l, D, E, 1, ζ) room_1 4 (p, e, s, m, #[Value.ref b], below, meth, c, Q, fun a => s.heap.size ≤ a) code RL) {L : Nat} {xs : Nat → Int32} (hX : va_X b L xs s s.heap) (hbl : b < s.heap.size) {a1 a2 : Nat} {hx hm : hp} (hsim : Sim hx hm) {x3 : Int32} (g1 : vp_in (x3 + 1) L) (g2 : vp_in (x3 + 2) L) (g3 : vp_in (x3 + 3) L) (g4 : vp_in (x3 + 4) L) (g5 : vp_in (x3 + 5) L) {cells slots : Nat} (hC : cells + 5 ≤ 619789) (hSl : slots + 139 ≤ 7242880) {H : Heap} {locs : List Loc} {la : Array Slot} (hw : LW D E (fun a => s.heap.size ≤ a) a1 a2 hx hm H) (hS : va_S (fun a => s.heap.size ≤ a) s.heap H locs) (hl : lv_has la 4 [(3, .int x3), (2, .ref a2), (1, .ref a1), (0, .ref b)]) (K : ∀ (H : Heap) (locs : List Loc) (hx hm : hp), Sim hx hm → LW D E (fun a => s.heap.size ≤ a) a1 a2 hx hm H → va_S (fun a => s.heap.size ≤ a) s.heap H locs → W p l e room_1 s m #[Value.ref b] below meth c H locs (cells + 5) (slots + 139) Q (F0 m 1370 la [])) : W p l e room_1 s m #[Value.ref b] below meth c H locs cells slots Q (F0 m 351 la []) := by
  obtain ⟨r, f1, f2⟩ := s_meaning hsim (xs (x3 + 1).toNatClampNeg)
  refine lv_aload_n X.1 X.2.1 dL_law_351 rfl (lv_at hl 2 rfl) ?_
  refine lv_aload_n X.1 X.2.1 dL_law_352 rfl (lv_at hl 3 rfl) ?_
  refine lv_iload_n X.1 X.2.1 dL_law_353 rfl (lv_at hl 0 rfl) ?_
  refine lv_iconst (v := 1) X.1 X.2.1 dL_law_354 (by decide) ?_
  refine lv_iadd X.1 X.2.1 dL_law_355 ?_
  refine va_sld X.1 X.2.1 hX hbl (Nat.not_le.mpr hbl) hS g1 dL_law_356 ?_
  refine lc_X X [.int (xs (x3 + 1).toNatClampNeg)] [] (r := .int r) (mc := 0) (ms := 0) (fun L q => k_X11_meaning (ω := (l, D, E, 1, ζ)) rfl f1) mt_X11_meaning (mT_2 216 rfl rfl) ⟨Nat.le_of_ble_eq_true rfl, Nat.le_of_ble_eq_true rfl⟩ rfl rfl (by omega) (Nat.le_of_ble_eq_true rfl) dL_law_357 hw hS hl (fun H locs hw hS => ?_)
  refine lv_aload_n X.1 X.2.1 dL_law_360 rfl (lv_at hl 1 rfl) ?_
  refine lv_aload_n X.1 X.2.1 dL_law_361 rfl (lv_at hl 3 rfl) ?_
  refine lv_iload_n X.1 X.2.1 dL_law_362 rfl (lv_at hl 0 rfl) ?_
  refine lv_iconst (v := 1) X.1 X.2.1 dL_law_363 (by decide) ?_
  refine lv_iadd X.1 X.2.1 dL_law_364 ?_
  refine va_sld X.1 X.2.1 hX hbl (Nat.not_le.mpr hbl) hS g1 dL_law_365 ?_
  refine lc_M X [.int (xs (x3 + 1).toNatClampNeg)] [.int r] (r := .int r) (fun L q => k_X12_meaning (ω := (l, D, E, 0, ζ)) rfl f2) mt_X12_meaning (mT_6 148 rfl rfl) ⟨Nat.le_of_ble_eq_true rfl, Nat.le_of_ble_eq_true rfl⟩ rfl rfl (by omega) (Nat.le_of_ble_eq_true rfl) dL_law_366 hw hS hl (fun H locs hw hS => ?_)
  refine lv_icmp_eq (tgt := 1370) X.1 X.2.1 dL_law_369 (by decide) (fun _ => ?_) (fun hne => absurd rfl hne)
  refine W.widen (k := cells + 5) (n := slots + 139) (by omega) (by omega) ?_
  exact K _ _ _ _ hsim hw hS
set_option maxHeartbeats 4000000 in
theorem law_w6 {p : Program} {l : Launch} {e : Env} {s : State} {m : MethodId} {below : List Frame} {meth : Method} {c : Code} {b : Nat} {D : va_G} {E : Nat → ClassId} {ζ : XZ} {Q : State → Prop} (X : XC (l, D, E, 1, ζ) room_1 4 (p, e, s, m, #[Value.ref b], below, meth, c, Q, fun a => s.heap.size ≤ a) code RL) {L : Nat} {xs : Nat → Int32} (hX : va_X b L xs s s.heap) (hbl : b < s.heap.size) {a1 a2 : Nat} {hx hm : hp} (hsim : Sim hx hm) {x3 : Int32} (g1 : vp_in (x3 + 1) L) (g2 : vp_in (x3 + 2) L) (g3 : vp_in (x3 + 3) L) (g4 : vp_in (x3 + 4) L) (g5 : vp_in (x3 + 5) L) {cells slots : Nat} (hC : cells + 5 ≤ 619789) (hSl : slots + 139 ≤ 7242880) {H : Heap} {locs : List Loc} {la : Array Slot} (hw : LW D E (fun a => s.heap.size ≤ a) a1 a2 hx hm H) (hS : va_S (fun a => s.heap.size ≤ a) s.heap H locs) (hl : lv_has la 4 [(3, .int x3), (2, .ref a2), (1, .ref a1), (0, .ref b)]) (K : ∀ (H : Heap) (locs : List Loc) (hx hm : hp), Sim hx hm → LW D E (fun a => s.heap.size ≤ a) a1 a2 hx hm H → va_S (fun a => s.heap.size ≤ a) s.heap H locs → W p l e room_1 s m #[Value.ref b] below meth c H locs (cells + 5) (slots + 139) Q (F0 m 1370 la [])) : W p l e room_1 s m #[Value.ref b] below meth c H locs cells slots Q (F0 m 374 la []) := by
  obtain ⟨hx', hm', r, f1, f2, hs'⟩ := s_say hsim (xs (x3 + 1).toNatClampNeg) (xs (x3 + 2).toNatClampNeg)
  refine lv_aload_n X.1 X.2.1 dL_law_374 rfl (lv_at hl 2 rfl) ?_
  refine lv_aload_n X.1 X.2.1 dL_law_375 rfl (lv_at hl 3 rfl) ?_
  refine lv_iload_n X.1 X.2.1 dL_law_376 rfl (lv_at hl 0 rfl) ?_
  refine lv_iconst (v := 1) X.1 X.2.1 dL_law_377 (by decide) ?_
  refine lv_iadd X.1 X.2.1 dL_law_378 ?_
  refine va_sld X.1 X.2.1 hX hbl (Nat.not_le.mpr hbl) hS g1 dL_law_379 ?_
  refine lv_aload_n X.1 X.2.1 dL_law_380 rfl (lv_at hl 3 rfl) ?_
  refine lv_iload_n X.1 X.2.1 dL_law_381 rfl (lv_at hl 0 rfl) ?_
  refine lv_iconst (v := 2) X.1 X.2.1 dL_law_382 (by decide) ?_
  refine lv_iadd X.1 X.2.1 dL_law_383 ?_
  refine va_sld X.1 X.2.1 hX hbl (Nat.not_le.mpr hbl) hS g2 dL_law_384 ?_
  refine lc_X X [.int (xs (x3 + 1).toNatClampNeg), .int (xs (x3 + 2).toNatClampNeg)] [] (r := .int r) (mc := 0) (ms := 0) (fun L q => k_X11_say (ω := (l, D, E, 1, ζ)) rfl f1) mt_X11_say (mT_2 220 rfl rfl) ⟨Nat.le_of_ble_eq_true rfl, Nat.le_of_ble_eq_true rfl⟩ rfl rfl (by omega) (Nat.le_of_ble_eq_true rfl) dL_law_385 hw hS hl (fun H locs hw hS => ?_)
  refine lv_aload_n X.1 X.2.1 dL_law_388 rfl (lv_at hl 1 rfl) ?_
  refine lv_aload_n X.1 X.2.1 dL_law_389 rfl (lv_at hl 3 rfl) ?_
  refine lv_iload_n X.1 X.2.1 dL_law_390 rfl (lv_at hl 0 rfl) ?_
  refine lv_iconst (v := 1) X.1 X.2.1 dL_law_391 (by decide) ?_
  refine lv_iadd X.1 X.2.1 dL_law_392 ?_
  refine va_sld X.1 X.2.1 hX hbl (Nat.not_le.mpr hbl) hS g1 dL_law_393 ?_
  refine lv_aload_n X.1 X.2.1 dL_law_394 rfl (lv_at hl 3 rfl) ?_
  refine lv_iload_n X.1 X.2.1 dL_law_395 rfl (lv_at hl 0 rfl) ?_
  refine lv_iconst (v := 2) X.1 X.2.1 dL_law_396 (by decide) ?_
  refine lv_iadd X.1 X.2.1 dL_law_397 ?_
  refine va_sld X.1 X.2.1 hX hbl (Nat.not_le.mpr hbl) hS g2 dL_law_398 ?_
  refine lc_M X [.int (xs (x3 + 1).toNatClampNeg), .int (xs (x3 + 2).toNatClampNeg)] [.int r] (r := .int r) (fun L q => k_X12_say (ω := (l, D, E, 0, ζ)) rfl f2) mt_X12_say (mT_6 152 rfl rfl) ⟨Nat.le_of_ble_eq_true rfl, Nat.le_of_ble_eq_true rfl⟩ rfl rfl (by omega) (Nat.le_of_ble_eq_true rfl) dL_law_399 hw hS hl (fun H locs hw hS => ?_)
  refine lv_icmp_eq (tgt := 1370) X.1 X.2.1 dL_law_402 (by decide) (fun _ => ?_) (fun hne => absurd rfl hne)
  refine W.widen (k := cells + 5) (n := slots + 139) (by omega) (by omega) ?_
  exact K _ _ _ _ hs' hw hS
set_option maxHeartbeats 4000000 in
theorem law_w7 {p : Program} {l : Launch} {e : Env} {s : State} {m : MethodId} {below : List Frame} {meth : Method} {c : Code} {b : Nat} {D : va_G} {E : Nat → ClassId} {ζ : XZ} {Q : State → Prop} (X : XC (l, D, E, 1, ζ) room_1 4 (p, e, s, m, #[Value.ref b], below, meth, c, Q, fun a => s.heap.size ≤ a) code RL) {L : Nat} {xs : Nat → Int32} (hX : va_X b L xs s s.heap) (hbl : b < s.heap.size) {a1 a2 : Nat} {hx hm : hp} (hsim : Sim hx hm) {x3 : Int32} (g1 : vp_in (x3 + 1) L) (g2 : vp_in (x3 + 2) L) (g3 : vp_in (x3 + 3) L) (g4 : vp_in (x3 + 4) L) (g5 : vp_in (x3 + 5) L) {cells slots : Nat} (hC : cells + 5 ≤ 619789) (hSl : slots + 139 ≤ 7242880) {H : Heap} {locs : List Loc} {la : Array Slot} (hw : LW D E (fun a => s.heap.size ≤ a) a1 a2 hx hm H) (hS : va_S (fun a => s.heap.size ≤ a) s.heap H locs) (hl : lv_has la 4 [(3, .int x3), (2, .ref a2), (1, .ref a1), (0, .ref b)]) (K : ∀ (H : Heap) (locs : List Loc) (hx hm : hp), Sim hx hm → LW D E (fun a => s.heap.size ≤ a) a1 a2 hx hm H → va_S (fun a => s.heap.size ≤ a) s.heap H locs → W p l e room_1 s m #[Value.ref b] below meth c H locs (cells + 5) (slots + 139) Q (F0 m 1370 la [])) : W p l e room_1 s m #[Value.ref b] below meth c H locs cells slots Q (F0 m 407 la []) := by
  obtain ⟨hx', hm', r, f1, f2, hs'⟩ := s_row hsim (xs (x3 + 1).toNatClampNeg) (xs (x3 + 2).toNatClampNeg) (xs (x3 + 3).toNatClampNeg)
  refine lv_aload_n X.1 X.2.1 dL_law_407 rfl (lv_at hl 2 rfl) ?_
  refine lv_aload_n X.1 X.2.1 dL_law_408 rfl (lv_at hl 3 rfl) ?_
  refine lv_iload_n X.1 X.2.1 dL_law_409 rfl (lv_at hl 0 rfl) ?_
  refine lv_iconst (v := 1) X.1 X.2.1 dL_law_410 (by decide) ?_
  refine lv_iadd X.1 X.2.1 dL_law_411 ?_
  refine va_sld X.1 X.2.1 hX hbl (Nat.not_le.mpr hbl) hS g1 dL_law_412 ?_
  refine lv_aload_n X.1 X.2.1 dL_law_413 rfl (lv_at hl 3 rfl) ?_
  refine lv_iload_n X.1 X.2.1 dL_law_414 rfl (lv_at hl 0 rfl) ?_
  refine lv_iconst (v := 2) X.1 X.2.1 dL_law_415 (by decide) ?_
  refine lv_iadd X.1 X.2.1 dL_law_416 ?_
  refine va_sld X.1 X.2.1 hX hbl (Nat.not_le.mpr hbl) hS g2 dL_law_417 ?_
  refine lv_aload_n X.1 X.2.1 dL_law_418 rfl (lv_at hl 3 rfl) ?_
  refine lv_iload_n X.1 X.2.1 dL_law_419 rfl (lv_at hl 0 rfl) ?_
  refine lv_iconst (v := 3) X.1 X.2.1 dL_law_420 (by decide) ?_
  refine lv_iadd X.1 X.2.1 dL_law_421 ?_
  refine va_sld X.1 X.2.1 hX hbl (Nat.not_le.mpr hbl) hS g3 dL_law_422 ?_
  refine lc_X X [.int (xs (x3 + 1).toNatClampNeg), .int (xs (x3 + 2).toNatClampNeg), .int (xs (x3 + 3).toNatClampNeg)] [] (r := .int r) (mc := 0) (ms := 0) (fun L q => k_X11_row (ω := (l, D, E, 1, ζ)) rfl f1) mt_X11_row (mT_2 224 rfl rfl) ⟨Nat.le_of_ble_eq_true rfl, Nat.le_of_ble_eq_true rfl⟩ rfl rfl (by omega) (Nat.le_of_ble_eq_true rfl) dL_law_423 hw hS hl (fun H locs hw hS => ?_)
  refine lv_aload_n X.1 X.2.1 dL_law_426 rfl (lv_at hl 1 rfl) ?_
  refine lv_aload_n X.1 X.2.1 dL_law_427 rfl (lv_at hl 3 rfl) ?_
  refine lv_iload_n X.1 X.2.1 dL_law_428 rfl (lv_at hl 0 rfl) ?_
  refine lv_iconst (v := 1) X.1 X.2.1 dL_law_429 (by decide) ?_
  refine lv_iadd X.1 X.2.1 dL_law_430 ?_
  refine va_sld X.1 X.2.1 hX hbl (Nat.not_le.mpr hbl) hS g1 dL_law_431 ?_
  refine lv_aload_n X.1 X.2.1 dL_law_432 rfl (lv_at hl 3 rfl) ?_
  refine lv_iload_n X.1 X.2.1 dL_law_433 rfl (lv_at hl 0 rfl) ?_
  refine lv_iconst (v := 2) X.1 X.2.1 dL_law_434 (by decide) ?_
  refine lv_iadd X.1 X.2.1 dL_law_435 ?_
  refine va_sld X.1 X.2.1 hX hbl (Nat.not_le.mpr hbl) hS g2 dL_law_436 ?_
  refine lv_aload_n X.1 X.2.1 dL_law_437 rfl (lv_at hl 3 rfl) ?_
  refine lv_iload_n X.1 X.2.1 dL_law_438 rfl (lv_at hl 0 rfl) ?_
  refine lv_iconst (v := 3) X.1 X.2.1 dL_law_439 (by decide) ?_
  refine lv_iadd X.1 X.2.1 dL_law_440 ?_
  refine va_sld X.1 X.2.1 hX hbl (Nat.not_le.mpr hbl) hS g3 dL_law_441 ?_
  refine lc_M X [.int (xs (x3 + 1).toNatClampNeg), .int (xs (x3 + 2).toNatClampNeg), .int (xs (x3 + 3).toNatClampNeg)] [.int r] (r := .int r) (fun L q => k_X12_row (ω := (l, D, E, 0, ζ)) rfl f2) mt_X12_row (mT_6 8 rfl rfl) ⟨Nat.le_of_ble_eq_true rfl, Nat.le_of_ble_eq_true rfl⟩ rfl rfl (by omega) (Nat.le_of_ble_eq_true rfl) dL_law_442 hw hS hl (fun H locs hw hS => ?_)
  refine lv_icmp_eq (tgt := 1370) X.1 X.2.1 dL_law_445 (by decide) (fun _ => ?_) (fun hne => absurd rfl hne)
  refine W.widen (k := cells + 5) (n := slots + 139) (by omega) (by omega) ?_
  exact K _ _ _ _ hs' hw hS
