-- ===== two worlds in one heap; the law's calls =====
theorem run_M {p : Program} {l : Launch} {e : Env} {R : Room} {s : State} {m : MethodId} {args : Array Value} {below : List Frame} {meth : Method} {c : Code} {H : Heap} {locs : List Loc} {cells slots mc ms : Nat} {g : JFrame} {rest : List Value} {Qa Qb : State → Outcome → State → Prop} {free : Addr → Prop} (hm : ∀ st oc t, Qa st oc t → Qb st oc t) (h : va_Run p l e R s m args below meth c H locs cells slots mc ms g rest Qa free) : va_Run p l e R s m args below meth c H locs cells slots mc ms g rest Qb free := by
  intro T hT X
  obtain ⟨v, st0, t, T', L, g0, X', hL, e1, e2, hq, stp⟩ := h T hT X
  exact ⟨v, st0, t, T', L, g0, X', hL, e1, e2, hm _ _ _ hq, stp⟩
theorem xq_n {ω : XO} {L : List Nat} {q : Nat → Nat} {h' : hp} {v : Option Value} {sz : Nat} {a : Array Value} {st : State} {oc : Outcome} {t : State} (hq : XQ ω L q h' v sz a st oc t) : XQn ω L q h' (fun _ => v) sz a st oc t := by
  obtain ⟨l, D, E, b, ζ⟩ := ω
  obtain ⟨⟨h1, h2, h3⟩, h4⟩ := hq
  exact ⟨⟨L, q, Ext.rf, fun i hi => Or.inl ⟨i, hi, rfl⟩, h1, h2, h3⟩, h4⟩
def tw (D : va_G) (E : Nat → ClassId) (A : Nat → Prop) (b1 : Nat) (L1 : List Nat) (q1 : Nat → Nat) (h1 : hp) (b2 : Nat) (L2 : List Nat) (q2 : Nat → Nat) (h2 : hp) (H : Heap) : Prop := va_P D vwCl (XL E L1 q1 h1) H ∧ XD b1 L1 q1 h1 ∧ (∀ i ∈ L1, A (q1 i)) ∧ va_P D vwCl (XL E L2 q2 h2) H ∧ XD b2 L2 q2 h2 ∧ (∀ i ∈ L2, A (q2 i)) ∧ ∀ i ∈ L1, ∀ j ∈ L2, q1 i ≠ q2 j
theorem tw.sw {D : va_G} {E : Nat → ClassId} {A : Nat → Prop} {b1 : Nat} {L1 : List Nat} {q1 : Nat → Nat} {h1 : hp} {b2 : Nat} {L2 : List Nat} {q2 : Nat → Nat} {h2 : hp} {H : Heap} (w : tw D E A b1 L1 q1 h1 b2 L2 q2 h2 H) : tw D E A b2 L2 q2 h2 b1 L1 q1 h1 H := by
  obtain ⟨x1, x2, x3, x4, x5, x6, x7⟩ := w
  exact ⟨x4, x5, x6, x1, x2, x3, fun i hi j hj e => x7 j hj i hi e.symm⟩
theorem XL_lt {D : va_G} {E : Nat → ClassId} {L : List Nat} {q : Nat → Nat} {h : hp} {H : Heap} (hP : va_P D vwCl (XL E L q h) H) {i : Nat} (hi : i ∈ L) : q i < H.size := by
  obtain ⟨k, -, hk⟩ := XL_at (E := E) (q := q) (h := h) hi
  exact (hP k _ hk).lt
theorem tw_call {p : Program} {l : Launch} {e : Env} {rm : Room} {s : State} {m : MethodId} {args : Array Value} {below : List Frame} {meth : Method} {c : Code} {Q : State → Prop} {A : Nat → Prop} {D : va_G} {E : Nat → ClassId} {ζ : XZ} (hA0 : ∀ a, s.heap.size ≤ a → A a) {b1 : Nat} {L1 : List Nat} {q1 : Nat → Nat} {h1 h1' : hp} {b2 : Nat} {L2 : List Nat} {q2 : Nat → Nat} {h2 : hp} {H : Heap} {locs : List Loc} {la : Array Slot} {cells slots mc ms pc : Nat} {st rest : List Value} {v : (Nat → Nat) → Option Value} {a : Array Value}
    (w : tw D E A b1 L1 q1 h1 b2 L2 q2 h2 H) (hS : va_S A s.heap H locs)
    (hrun : va_Run p l e rm s m args below meth c H locs cells slots mc ms (F0 m pc la st) rest (XQn (l, D, E, b1, ζ) L1 q1 h1' v H.size a) (XA L1 q1 H.size))
    (kk : ∀ (H1 : Heap) (locs1 : List Loc) (L1' : List Nat) (q1' : Nat → Nat), Ext L1 q1 L1' q1' → tw D E A b1 L1' q1' h1' b2 L2 q2 h2 H1 → va_S A s.heap H1 locs1 → W p l e rm s m args below meth c H1 locs1 (cells + mc) (slots + ms) Q (F0 m (pc + 3) la ((v q1').toList ++ rest))) : W p l e rm s m args below meth c H locs cells slots Q (F0 m pc la st) := by
  obtain ⟨hP, hX, hA, hP2, hX2, hA2, hx⟩ := w
  intro T hT XS
  obtain ⟨v', st0, t, T', Lw, g0, X', hL, e1, e2, ⟨⟨L', q', hE, hAn, hv, hP1, hX1⟩, hz, hk⟩, stp⟩ := hrun T hT XS
  cases hv
  rw [g0] at hz hk
  have hsub : ∀ a, XA L1 q1 H.size a → A a := fun a ha => by
    rcases ha with ⟨i, hi, rfl⟩ | ha
    · exact hA i hi
    · exact hA0 a (Nat.le_trans hS.1 ha)
  have hP2' : va_P D vwCl (XL E L2 q2 h2) T'.heap := hP2.kept (fun k x hk2 => by
    have hlt := (hP2 k x hk2).lt
    obtain ⟨j, -, hj, rfl⟩ := XL_inv hk2
    rw [e1]
    refine hk _ hlt (fun z => ?_)
    rcases z with ⟨i, hi, ez⟩ | z
    · exact hx i hi j hj ez.symm
    · exact absurd hlt (Nat.not_lt.mpr z))
  have hx' : ∀ i ∈ L', ∀ j ∈ L2, q' i ≠ q2 j := fun i hi j hj ez => by
    rcases hAn i hi with ⟨i0, hi0, e0⟩ | z
    · exact hx i0 hi0 j hj (e0.symm.trans ez)
    · exact absurd (XL_lt hP2 hj) (Nat.not_lt.mpr (by rw [← ez]; exact z))
  obtain ⟨t2, a1, bb⟩ := kk T'.heap (locs ++ Lw) L' q' hE ⟨by rw [e1]; exact hP1, hX1, fun i hi => hsub _ (hAn i hi), hP2', hX2, hA2, hx'⟩
    ⟨Nat.le_trans hS.1 (by rw [e1]; exact hz), fun a g1 g2 => by rw [e1, hk a (Nat.lt_of_lt_of_le g1 hS.1) (fun z => g2 (hsub a z))]; exact hS.2.1 a g1 g2, fun x hxm => by
      rcases List.mem_append.mp hxm with h | h
      · exact hS.2.2 x h
      · exact hsub _ (hL x h)⟩ T' rfl X'
  exact ⟨t2, stp t2 a1, bb⟩
/-- a virtual call in one of two worlds: the run of it -/
theorem tw_runV {p : Program} {l : Launch} {e : Env} {rm : Room} {s : State} {m : MethodId} {args : Array Value} {below : List Frame} {meth : Method} {c : Code} {Q : State → Prop} {A : Nat → Prop} {D : va_G} {E : Nat → ClassId} {ζ : XZ} {b1 nL : Nat} {cc : ByteArray} {own : String} (X : XC (l, D, E, b1, ζ) rm nL (p, e, s, m, args, below, meth, c, Q, A) cc own) {L1 : List Nat} {q1 : Nat → Nat} {h1 : hp} {H : Heap} {locs : List Loc} {la : Array Slot} {cells slots pc : Nat} {lv : List (Nat × Value)} {y : MethodName} {bytes : ByteArray} {maxL idx i ci : Nat} {rt : Option FieldType} {rm2 : Room} {C : String} {T : u_T} {N : Nat} {Qc : Nat → Array Value → State → Outcome → State → Prop} (As rest : List Value)
    (hM : ∀ sz : Nat, Met l y (wA y bytes maxL rt) rm2 (va_Pc (.ref (q1 i) :: As) (XB (l, D, E, b1, ζ) L1 q1 h1 sz)) (Qc sz) rm2.cells rm2.slots (XA L1 q1 sz)) (hT : MT y bytes maxL rt C As.length) (hl0 : Cond.methodLink own idx y ∈ ALLW) (hR : rm2.frames + 1 ≤ rm.frames ∧ 8 + (maxL + 11) + rm2.locals ≤ rm.locals) (hcs : cells + rm2.cells ≤ rm.cells ∧ slots + rm2.slots ≤ rm.slots)
    (hs : sd b1 i = true) (hk : kdOf h1 i = ci + 1) (hci : ci < 19) (hc : vwCl[ci]? = some (C, T, N)) (hroom : (rest.map fun v => v.category).sum ≤ 8) (hd : decode cc pc = .ok (.invokevirtual idx, 3))
    (hP : va_P D vwCl (XL E L1 q1 h1) H) (hX : XD b1 L1 q1 h1) (hA : ∀ i ∈ L1, A (q1 i)) (hS : va_S A s.heap H locs) (hl : lv_has la nL lv) :
    va_Run p l e rm s m args below meth c H locs cells slots rm2.cells rm2.slots (F0 m pc la (As.reverse ++ .ref (q1 i) :: rest)) rest (Qc H.size (Value.ref (q1 i) :: As).toArray) (XA L1 q1 H.size) := by
  have hpre := fun (U : State) (hU : U.heap = H) hW => xb_pre X (as := .ref (q1 i) :: As) hP hX hA hS hU hW
  obtain ⟨hx, hb, hml, hown, hts, hK, hlocks, hA0, hz⟩ := X
  have hi : i ∈ L1 := hX.2.2.1 i hs (by rw [hk]; omega)
  obtain ⟨n, -, hn⟩ := XL_at (E := E) (q := q1) (h := h1) hi
  rw [cellX_obj hk hci] at hn
  obtain ⟨m1, m2, m3, m4, m5⟩ := hT
  have hG : GoodIn ALLW (wsV own idx C y (wA y bytes maxL rt)) := goodA m4 (by
    intro w hw
    simp only [List.mem_cons, List.not_mem_nil, or_false] at hw
    rcases hw with rfl | rfl | rfl | rfl <;> assumption)
  exact va_runV (As := As) (rest := rest) ⟨hx, hb, hml, hown, hts⟩ (hM H.size) (cwV As.length hts hG rfl rfl rfl m5 hR) ⟨xb_blind, va_recv hK hP hc hn, hpre⟩ rfl rfl hl.1 rfl (lv_room hroom) hd hcs
/-- the law's state: the class's world and the reference's, with their addresses -/
def LW (D : va_G) (E : Nat → ClassId) (A : Nat → Prop) (a1 a2 : Nat) (hx hm : hp) (H : Heap) : Prop := ∃ (L1 : List Nat) (q1 : Nat → Nat) (L2 : List Nat) (q2 : Nat → Nat), q1 0 = a1 ∧ q2 52 = a2 ∧ tw D E A 1 L1 q1 hx 0 L2 q2 hm H
theorem lc_X {p : Program} {l : Launch} {e : Env} {s : State} {m : MethodId} {args : Array Value} {below : List Frame} {meth : Method} {c : Code} {Q : State → Prop} {A : Nat → Prop} {D : va_G} {E : Nat → ClassId} {ζ : XZ} (X : XC (l, D, E, 1, ζ) room_1 4 (p, e, s, m, args, below, meth, c, Q, A) code RL) {a1 a2 : Nat} {hx hm hx' : hp} {H : Heap} {locs : List Loc} {la : Array Slot} {cells slots pc mc ms : Nat} {lv : List (Nat × Value)} {y : MethodName} {bytes : ByteArray} {maxL idx : Nat} {rt : Option FieldType} {rm2 : Room} {r : Value} (As rest : List Value)
    (hM : ∀ (L : List Nat) (q : Nat → Nat), XM (l, D, E, 1, ζ) y bytes maxL rt rm2 L q hx (.ref (q 0) :: As) (some r) hx') (hT : MT y bytes maxL rt RX11 As.length) (hl0 : Cond.methodLink RL idx y ∈ ALLW) (hR : rm2.frames + 1 ≤ 2048 ∧ 8 + (maxL + 11) + rm2.locals ≤ 84000) (hmc : rm2.cells = mc) (hms : rm2.slots = ms) (hcs : cells + mc ≤ 619789 ∧ slots + ms ≤ 7242880) (hroom : (rest.map fun v => v.category).sum ≤ 8) (hd : decode code pc = .ok (.invokevirtual idx, 3))
    (w : LW D E A a1 a2 hx hm H) (hS : va_S A s.heap H locs) (hl : lv_has la 4 lv)
    (kk : ∀ (H : Heap) (locs : List Loc), LW D E A a1 a2 hx' hm H → va_S A s.heap H locs → W p l e room_1 s m args below meth c H locs (cells + mc) (slots + ms) Q (F0 m (pc + 3) la (r :: rest))) : W p l e room_1 s m args below meth c H locs cells slots Q (F0 m pc la (As.reverse ++ .ref a1 :: rest)) := by
  subst hmc
  subst hms
  obtain ⟨L1, q1, L2, q2, rfl, ea, ht⟩ := w
  have hi : 0 ∈ L1 := ht.2.1.2.2.1 0 rfl (show stK 0 ≠ 0 by decide)
  exact tw_call (ζ := ζ) (v := fun _ => some r) X.2.2.2.2.2.2.2.1 ht hS (run_M (fun st oc t hq => xq_n hq) (tw_runV (i := 0) (ci := 12) X As rest (hM L1 q1) hT hl0 hR hcs rfl (show kdOf hx 0 = 12 + 1 from rfl) (by decide) rfl hroom hd ht.1 ht.2.1 ht.2.2.1 hS hl)) (fun H1 locs1 L' q' hE ht' hS' => kk H1 locs1 ⟨L', q', L2, q2, (hE 0 hi).2, ea, ht'⟩ hS')
theorem lc_XN {p : Program} {l : Launch} {e : Env} {s : State} {m : MethodId} {args : Array Value} {below : List Frame} {meth : Method} {c : Code} {Q : State → Prop} {A : Nat → Prop} {D : va_G} {E : Nat → ClassId} {ζ : XZ} (X : XC (l, D, E, 1, ζ) room_1 4 (p, e, s, m, args, below, meth, c, Q, A) code RL) {a1 a2 : Nat} {hx hm hx' : hp} {H : Heap} {locs : List Loc} {la : Array Slot} {cells slots pc mc ms : Nat} {lv : List (Nat × Value)} {y : MethodName} {bytes : ByteArray} {maxL idx : Nat} {rt : Option FieldType} {rm2 : Room} {r : Value} (As rest : List Value)
    (hM : ∀ (L : List Nat) (q : Nat → Nat), XMn (l, D, E, 1, ζ) y bytes maxL rt rm2 L q hx (.ref (q 0) :: As) (fun _ => some r) hx') (hT : MT y bytes maxL rt RX11 As.length) (hl0 : Cond.methodLink RL idx y ∈ ALLW) (hR : rm2.frames + 1 ≤ 2048 ∧ 8 + (maxL + 11) + rm2.locals ≤ 84000) (hmc : rm2.cells = mc) (hms : rm2.slots = ms) (hcs : cells + mc ≤ 619789 ∧ slots + ms ≤ 7242880) (hroom : (rest.map fun v => v.category).sum ≤ 8) (hd : decode code pc = .ok (.invokevirtual idx, 3))
    (w : LW D E A a1 a2 hx hm H) (hS : va_S A s.heap H locs) (hl : lv_has la 4 lv)
    (kk : ∀ (H : Heap) (locs : List Loc), LW D E A a1 a2 hx' hm H → va_S A s.heap H locs → W p l e room_1 s m args below meth c H locs (cells + mc) (slots + ms) Q (F0 m (pc + 3) la (r :: rest))) : W p l e room_1 s m args below meth c H locs cells slots Q (F0 m pc la (As.reverse ++ .ref a1 :: rest)) := by
  subst hmc
  subst hms
  obtain ⟨L1, q1, L2, q2, rfl, ea, ht⟩ := w
  have hi : 0 ∈ L1 := ht.2.1.2.2.1 0 rfl (show stK 0 ≠ 0 by decide)
  exact tw_call (ζ := ζ) (v := fun _ => some r) X.2.2.2.2.2.2.2.1 ht hS (tw_runV (i := 0) (ci := 12) X As rest (hM L1 q1) hT hl0 hR hcs rfl (show kdOf hx 0 = 12 + 1 from rfl) (by decide) rfl hroom hd ht.1 ht.2.1 ht.2.2.1 hS hl) (fun H1 locs1 L' q' hE ht' hS' => kk H1 locs1 ⟨L', q', L2, q2, (hE 0 hi).2, ea, ht'⟩ hS')
theorem lc_M {p : Program} {l : Launch} {e : Env} {s : State} {m : MethodId} {args : Array Value} {below : List Frame} {meth : Method} {c : Code} {Q : State → Prop} {A : Nat → Prop} {D : va_G} {E : Nat → ClassId} {ζ : XZ} (X : XC (l, D, E, 1, ζ) room_1 4 (p, e, s, m, args, below, meth, c, Q, A) code RL) {a1 a2 : Nat} {hx hm hm' : hp} {H : Heap} {locs : List Loc} {la : Array Slot} {cells slots pc : Nat} {lv : List (Nat × Value)} {y : MethodName} {bytes : ByteArray} {maxL idx : Nat} {rt : Option FieldType} {rm2 : Room} {r : Value} (As rest : List Value)
    (hM : ∀ (L : List Nat) (q : Nat → Nat), XM (l, D, E, 0, ζ) y bytes maxL rt rm2 L q hm (.ref (q 52) :: As) (some r) hm') (hT : MT y bytes maxL rt RX12 As.length) (hl0 : Cond.methodLink RL idx y ∈ ALLW) (hR : rm2.frames + 1 ≤ 2048 ∧ 8 + (maxL + 11) + rm2.locals ≤ 84000) (hmc : rm2.cells = 0) (hms : rm2.slots = 0) (hcs : cells ≤ 619789 ∧ slots ≤ 7242880) (hroom : (rest.map fun v => v.category).sum ≤ 8) (hd : decode code pc = .ok (.invokevirtual idx, 3))
    (w : LW D E A a1 a2 hx hm H) (hS : va_S A s.heap H locs) (hl : lv_has la 4 lv)
    (kk : ∀ (H : Heap) (locs : List Loc), LW D E A a1 a2 hx hm' H → va_S A s.heap H locs → W p l e room_1 s m args below meth c H locs cells slots Q (F0 m (pc + 3) la (r :: rest))) : W p l e room_1 s m args below meth c H locs cells slots Q (F0 m pc la (As.reverse ++ .ref a2 :: rest)) := by
  obtain ⟨L1, q1, L2, q2, ea, rfl, ht⟩ := w
  have hi : 52 ∈ L2 := ht.2.2.2.2.1.2.2.1 52 rfl (show stK 52 ≠ 0 by decide)
  refine tw_call (ζ := ζ) (mc := rm2.cells) (ms := rm2.slots) (v := fun _ => some r) X.2.2.2.2.2.2.2.1 ht.sw hS (run_M (fun st oc t hq => xq_n hq) (tw_runV (Q := Q) (b1 := 0) (i := 52) (ci := 13) X As rest (hM L2 q2) hT hl0 hR (by rw [hmc, hms]; exact hcs) rfl (show kdOf hm 52 = 13 + 1 from rfl) (by decide) rfl hroom hd ht.2.2.2.1 ht.2.2.2.2.1 ht.2.2.2.2.2.1 hS hl)) (fun H1 locs1 L' q' hE ht' hS' => ?_)
  rw [hmc, hms]
  exact kk H1 locs1 ⟨L1, q1, L', q', ea, (hE 52 hi).2, ht'.sw⟩ hS'
