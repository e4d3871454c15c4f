-- ===== the law: from its entry =====
/-- a constructor's call beside another world -/
theorem tw_runI {p : Program} {l : Launch} {e : Env} {rm : Room} {s : State} {m : MethodId} {args : Array Value} {below : List Frame} {meth : Method} {c : Code} {Q : State → Prop} {A : Nat → Prop} {D : va_G} {E : Nat → ClassId} {ζ : XZ} {b1 nL : Nat} {cc : ByteArray} {own : String} (X : XC (l, D, E, b1, ζ) rm nL (p, e, s, m, args, below, meth, c, Q, A) cc own) {L1 : List Nat} {q1 : Nat → Nat} {h1 h1' : hp} {H : Heap} {locs : List Loc} {la : Array Slot} {cells slots pc : Nat} {lv : List (Nat × Value)} {y : MethodName} {bytes : ByteArray} {maxL idx i : Nat} {rm2 : Room} (As rest : List Value)
    (hM : XMn (l, D, E, b1, ζ) y bytes maxL none rm2 L1 q1 h1 (.ref (q1 i) :: As) (fun _ => none) h1') (hl1 : Cond.methodLink own idx y ∈ ALLW) (hl2 : Cond.instanceMethod y ∈ ALLW) (hl3 : Cond.initialized y.cls ∈ ALLW) (hcode : Cond.code y bytes maxL none ∈ ALLW) (hyn : y.name = "<init>") (m5 : y.cls ≠ "java/lang/invoke/MethodHandle" ∧ y.cls ≠ "java/lang/invoke/VarHandle" ∧ (parseMethodDescriptor y.desc).map (fun d => d.parameters.length) = some As.length) (hR : rm2.frames + 1 ≤ rm.frames ∧ 8 + (maxL + 11) + rm2.locals ≤ rm.locals) (hcs : cells + rm2.cells ≤ rm.cells ∧ slots + rm2.slots ≤ rm.slots) (hroom : (rest.map fun v => v.category).sum ≤ 8) (hd : decode cc pc = .ok (.invokespecial idx, 3))
    (hP : va_P D vwCl (XL E L1 q1 h1) H) (hX : XD b1 L1 q1 h1) (hA : ∀ i ∈ L1, A (q1 i)) (hS : va_S A s.heap H locs) (hl : lv_has la nL lv) :
    va_Run p l e rm s m args below meth c H locs cells slots rm2.cells rm2.slots (F0 m pc la (As.reverse ++ .ref (q1 i) :: rest)) rest (XQn (l, D, E, b1, ζ) L1 q1 h1' (fun _ => none) H.size (Value.ref (q1 i) :: As).toArray) (XA L1 q1 H.size) := by
  have hpre := fun (U : State) (hU : U.heap = H) hW => xb_pre X (as := .ref (q1 i) :: As) hP hX hA hS hU hW
  obtain ⟨hx, hb, hml, hown, hts, hK, hlocks, hA0, hz⟩ := X
  have hG : GoodIn ALLW (wA y bytes maxL none) := goodA (ws := []) hcode (fun w hw => by cases hw)
  exact va_runI (As := As) (rest := rest) ⟨hx, hb, hml, hown, hts⟩ (hM H.size) (cwI As.length hts hG rfl rfl rfl (hts _ hl3) (hts _ hl1) (hts _ hl2) hyn m5 hR) ⟨xb_blind, hpre⟩ rfl rfl hl.1 rfl (lv_room hroom) hd hcs
set_option maxHeartbeats 8000000 in
set_option maxRecDepth 100000 in
/-- behind the class's constructor -/
theorem law_mid {p : Program} {l : Launch} {e : Env} {s : State} {m : MethodId} {below : List Frame} {meth : Method} {c : Code} {b : Nat} {D : va_G} {E : Nat → ClassId} {ζ : XZ} (X : ∀ bb, XC (l, D, E, bb, ζ) room_1 4 (p, e, s, m, #[Value.ref b], below, meth, c, lw_Z below #[Value.ref b] s, fun a => s.heap.size ≤ a) code RL) (hr : meth.sig.returnType = ret) {L : Nat} (hL : L ≤ 3072) {xs : Nat → Int32} (hX : va_X b L xs s s.heap) (hbl : b < s.heap.size) {L1 : List Nat} {q1 : Nat → Nat} {H : Heap} {locs : List Loc} {la : Array Slot} (hP : va_P D vwCl (XL E L1 q1 hX1) H) (hXD : XD 2 L1 q1 hX1) (hA1 : ∀ i ∈ L1, s.heap.size ≤ q1 i) (hS : va_S (fun a => s.heap.size ≤ a) s.heap H locs) (hl : lv_has la 4 [(0, .ref b)]) : W p l e room_1 s m #[Value.ref b] below meth c H locs 51 843 (lw_Z below #[Value.ref b] s) (F0 m 7 la [.ref (q1 100)]) := by
  have X0 := X 0
  obtain ⟨k1, k2, k3⟩ := first_world (D := D) (E := E) (b := 1) (c0 := 0) (n := 51) (d := 100) (A := fun a => s.heap.size ≤ a) (by decide) (by decide) X1_nid side_X X1_K X1_R1 X1_R2 hXD hP hA1
  refine lv_astore_n (lv' := [(1, .ref (q1 100)), (0, .ref b)]) X0.1 X0.2.1 dL_law_7 rfl hl (by decide) rfl (fun la hl => ?_)
  obtain ⟨qx, hqx⟩ : ∃ qx : Nat → Nat, qx = fun i => q1 (i + 100) := ⟨_, rfl⟩
  rw [← hqx] at k1 k2
  have k1 : XD 1 (List.range' 0 51) qx hX00 := k1
  have k2 : va_P D vwCl (XL E (List.range' 0 51) qx hX00) H := k2
  have k3 : ∀ i ∈ List.range' 0 51, s.heap.size ≤ qx i := by rw [hqx]; exact k3
  have ea1 : qx 0 = q1 100 := by rw [hqx]
  have hA0 : ∀ q : Nat, s.heap.size ≤ q → (fun q : Nat => s.heap.size ≤ q) q := fun _ h => h
  refine va_new (ci := 13) (fs := dfl (rwF 13)) (C := RX12) (T := TX12) (N := 61) X0.1 X0.2.1 X0.2.2.2.2.1 inA_13 tyX12 fw_13.1 X0.2.2.2.1 (X0.2.2.2.2.1 _ (mT_5 33 rfl rfl)) (X0.2.2.2.2.1 _ (mT_5 34 rfl rfl)) (X0.2.2.2.2.1 _ (mT_1 10 rfl rfl)) X0.2.2.2.2.2.1 k2 (XL_D k1 k3) hS hA0 rfl (by decide +kernel) (Nat.le_of_ble_eq_true rfl) (Nat.le_of_ble_eq_true rfl) dL_law_8 (fun a2 H hP hD hS => ?_)
  have hw : tw D E (fun a => s.heap.size ≤ a) 2 [100] (fun _ => a2) (nwk hp0 (20 + 13)) 1 (List.range' 0 51) qx hX00 H := by
    have hlast : (XL E (List.range' 0 51) qx hX00 ++ [(a2, (Sum.inr (13, dfl (rwF 13)) : va_E))])[(XL E (List.range' 0 51) qx hX00).length]? = some (a2, Sum.inr (13, dfl (rwF 13))) := by simp
    have hcell : cellX E (fun _ => a2) (nwk hp0 (20 + 13)) 100 = .inr (13, dfl (rwF 13)) := by
      show cellK E (fun _ => a2) (nwk hp0 (20 + 13)) 100 (20 + 13) = _
      unfold cellK
      rw [if_neg (by omega), if_pos (by omega), show 20 + 13 - 20 = 13 by omega]
      exact congrArg (fun z => (Sum.inr (13, z) : va_E)) (fvs_dfl (h := hp0) (k := 20 + 13) (fun m fd hm => rwF_le hm))
    refine ⟨fun k x hk => ?_, XD_raw (by decide), fun i hi => hD.2 _ _ hlast, fun k x hk => hP k x ?_, k1, k3, fun i hi j hj e => ?_⟩
    · match k, hk with
      | 0, hk =>
        cases hk
        show va_at D vwCl (a2, cellX E (fun _ => a2) (nwk hp0 (20 + 13)) 100) H
        rw [hcell]
        exact hP _ _ hlast
      | k + 1, hk => simp [XL] at hk
    · rw [List.getElem?_append_left (List.getElem?_eq_some_iff.mp hk).1]; exact hk
    · obtain ⟨k, -, hk⟩ := XL_at (E := E) (q := qx) (h := hX00) hj
      have hk1 := (List.getElem?_eq_some_iff.mp hk).1
      have hk2 : (XL E (List.range' 0 51) qx hX00 ++ [(a2, (Sum.inr (13, dfl (rwF 13)) : va_E))])[k]? = some (qx j, cellX E qx hX00 j) := by rw [List.getElem?_append_left hk1]; exact hk
      have := hD.1 _ _ _ _ hlast hk2 e
      omega
  refine lv_dup X0.1 X0.2.1 dL_law_11 rfl ?_
  refine tw_call (ζ := ζ) (mc := rm_X12_init.cells) (ms := rm_X12_init.slots) (v := fun _ => none) X0.2.2.2.2.2.2.2.1 hw hS (tw_runI (Q := lw_Z below #[Value.ref b] s) (b1 := 2) (q1 := fun _ => a2) (i := 100) (X 2) [] [.ref a2] (kz_X12_init rfl hM1_eq) (mT_5 35 rfl rfl) (mT_5 36 rfl rfl) (mT_1 10 rfl rfl) (mT_5 37 rfl rfl) rfl ⟨by decide, by decide, (by decide : (parseMethodDescriptor yX12_init.desc).map (fun d => d.parameters.length) = some 0)⟩ ⟨Nat.le_of_ble_eq_true rfl, Nat.le_of_ble_eq_true rfl⟩ ⟨Nat.le_of_ble_eq_true rfl, Nat.le_of_ble_eq_true rfl⟩ (Nat.le_of_ble_eq_true rfl) dL_law_12 hw.1 hw.2.1 hw.2.2.1 hS hl) (fun H locs L2 q2 hE hw hS => ?_)
  have e100 : q2 100 = a2 := (hE 100 (List.mem_singleton.mpr rfl)).2
  obtain ⟨w1, w2, w3, w4, w5, w6, w7⟩ := hw
  obtain ⟨j1, j2, j3⟩ := first_world (D := D) (E := E) (b := 0) (c0 := 52) (n := 39) (d := 48) (A := fun a => s.heap.size ≤ a) (by decide) (by decide) M1_nid side_M M1_K M1_R1 M1_R2 w2 w1 w3
  have hmem : ∀ i, i ∈ List.range' 52 39 → i + 48 ∈ L2 := fun i hi => by
    obtain ⟨g1, g2⟩ := List.mem_range'_1.mp hi
    have hk := M1_K (i - 52) (by omega)
    refine w2.2.2.1 _ (show decide (100 ≤ i + 48) = true from decide_eq_true (by omega)) ?_
    rw [show i + 48 = 100 + (i - 52) by omega, hk.1]
    exact hk.2.1
  have hlw : LW D E (fun a => s.heap.size ≤ a) (q1 100) a2 hX00 hM00 H := ⟨List.range' 0 51, qx, List.range' 52 39, fun i => q2 (i + 48), ea1, e100, w4, w5, w6, j2, j1, j3, fun i hi j hj e => w7 _ (hmem j hj) i hi e.symm⟩
  show W p l e room_1 s m #[Value.ref b] below meth c H locs (51 + 1 + 38) (843 + 61 + 2803) (lw_Z below #[Value.ref b] s) (F0 m 15 la [.ref a2])
  refine lv_astore_n (lv' := [(2, .ref a2), (1, .ref (q1 100)), (0, .ref b)]) X0.1 X0.2.1 dL_law_15 rfl hl (by decide) rfl (fun la hl => ?_)
  refine lv_iconst (v := 0) X0.1 X0.2.1 dL_law_16 (by decide) ?_
  refine lv_istore_n (lv' := [(3, .int 0), (2, .ref a2), (1, .ref (q1 100)), (0, .ref b)]) X0.1 X0.2.1 dL_law_17 rfl hl (by decide) rfl (fun la hl => ?_)
  exact law_loop (X 1) hr hL hX hbl 512 0 hX00 hM00 (51 + 1 + 38) (843 + 61 + 2803) H locs la sim_first (by omega) (by omega) (by omega) (by omega) hlw hS hl
set_option maxHeartbeats 8000000 in
set_option maxRecDepth 100000 in
/-- THE LAW, from its entry -/
theorem whole_start {p : Program} {e : Env} {s : State} {m : MethodId} {below : List Frame} {meth : Method} {c : Code} (l : Launch) (hflags : l.flags = flags0) {b L : Nat} {xs : Nat → Int32} (hL : L ≤ 3072) (C0 : lw_At p s m meth c b L xs) : W p l e room_1 s m #[Value.ref b] below meth c s.heap [] 0 0 (lw_Z below #[Value.ref b] s) (entryFrame m ([Value.ref b] : List Value).toArray 4) := by
  obtain ⟨hx, hb, hr, hml, hown, hts, hX, hbl, hlocks, hgv⟩ := C0
  obtain ⟨D, E, hK⟩ := law_known hts
  obtain ⟨ζ, hz⟩ := law_xz hts hgv
  have X : ∀ bb, XC (l, D, E, bb, ζ) room_1 4 (p, e, s, m, #[Value.ref b], below, meth, c, lw_Z below #[Value.ref b] s, fun a => s.heap.size ≤ a) code RL := fun bb => ⟨hx, hb, hml, hown, law_words hts, hK, hlocks, fun a ha => ha, hz⟩
  have hl := lv_entry ([.ref b]) (n := 4) (Nat.le_of_ble_eq_true rfl)
  rw [lg_entry_eq]
  generalize (lg_sl ([.ref b]) ++ List.replicate (4 - (lg_sl ([.ref b])).length) Slot.unset).toArray = ls at hl ⊢
  have hl : lv_has ls 4 [(0, .ref b)] := hl
  have X2 := X 2
  have G : XG (l, D, E, 2, ζ) room_1 4 (p, e, s, m, #[Value.ref b], below, meth, c, lw_Z below #[Value.ref b] s, fun a => s.heap.size ≤ a) [] (fun _ => 0) hp0 0 0 0 [(0, .ref b)] [] := by
    refine xg_new X2 (ci := 12) (k := (20 + 12)) (C := RX11) (T := TX11) (N := 12) (i1 := 100) (h1 := nwk hp0 (20 + 12)) (by decide) rfl fw_12 inA_12 (by intro w hw; simp only [List.mem_cons, List.not_mem_nil, or_false] at hw; rcases hw with rfl | rfl | rfl <;> first | exact (mT_1 27 rfl rfl) | exact (mT_1 28 rfl rfl) | exact (mT_1 1 rfl rfl)) (Or.inl rfl) (by decide +kernel) (by constructor <;> exact Nat.le_of_ble_eq_true rfl) dL_law_0 rfl rfl (fun L1 q1 E1 Q1 => ?_)
    refine x_dup X2 dL_law_3 rfl ?_
    refine x_callI X2 [] [.ref (q1 100)] (kz_X11_init rfl hX1_eq) (by intro w hw; simp only [List.mem_cons, List.not_mem_nil, or_false] at hw; rcases hw with rfl | rfl | rfl <;> first | exact (mT_1 29 rfl rfl) | exact (mT_1 30 rfl rfl) | exact (mT_1 1 rfl rfl)) (mT_1 31 rfl rfl) rfl ⟨by decide, by decide, (by decide : (parseMethodDescriptor yX11_init.desc).map (fun d => d.parameters.length) = some 0)⟩ ⟨Nat.le_of_ble_eq_true rfl, Nat.le_of_ble_eq_true rfl⟩ (by constructor <;> exact Nat.le_of_ble_eq_true rfl) rfl (Nat.le_of_ble_eq_true rfl) dL_law_4 (fun L2 q2 E2 Q2 => ?_)
    have e100 : q2 100 = q1 100 := Q2 100 rfl (by decide)
    rw [← e100]
    intro H locs la hP hXD hA hS hl
    exact law_mid X hr hL hX hbl hP hXD hA hS hl
  refine G s.heap [] ls (fun k q h => by simp [XL] at h) ⟨List.nodup_nil, fun i hi => (nomatch hi), fun i h1 h2 => ?_, fun i hi => (nomatch hi), fun i hi => (nomatch hi)⟩ (fun i hi => (nomatch hi)) va_S.rf hl
  have h1 : decide (100 ≤ i) = true := h1
  have h3 := of_decide_eq_true h1
  refine absurd ?_ h2
  show (if i < 100 then stK i else 0) = 0
  rw [if_neg (by omega)]
