abbrev rm_X2_clear : Room := { frames := 0, cells := 0, slots := 0, locals := 0 }
def f_X2_clear (h : hp) (o : Nat) : Option (hp × Unit) := (ckO 1 h o 4
 (nm (sI h o 1 (0 : Int32)) fun h2 =>
 (some (h2, ()))))
set_option maxRecDepth 100000 in
set_option maxHeartbeats 4000000 in
theorem k_X2_clear {ω : XO} (hω : ω.2.2.2.1 = 1) {L : List Nat} {q : Nat → Nat} {h h' : hp} {o : Nat} {r : Unit} (hf : f_X2_clear h o = some (h', r)) : XM ω yX2_clear cX2_clear 1 none rm_X2_clear L q h [.ref (q o)] none h' := by
  refine XM_intro [(0, .ref (q o))] "SignalBlind$Row" (by decide) rfl rfl (Nat.le_of_ble_eq_true rfl) (fun κ X R => ?_)
  unfold f_X2_clear at hf
  refine x_aload_n X dX2_clear_0 0 rfl rfl ?_
  refine x_iconst X (v := 0) dX2_clear_1 (by decide) ?_
  obtain ⟨b1, hf⟩ := ckO_some hf
  refine x_puti X (i := o) fl_X2_7_3 fw_3 (sd_of hω b1.1) b1.2 rfl rfl rfl rfl dX2_clear_2 ?_
  obtain ⟨h2, eh2, hf⟩ := nm_some hf
  refine x_nmh eh2 ?_
  exact x_retV X R hf dX2_clear_5
theorem mt_X2_clear : MT yX2_clear cX2_clear 1 none "SignalBlind$Row" 0 := ⟨(mT_3 143 rfl rfl), (mT_3 144 rfl rfl), (mT_1 3 rfl rfl), (mT_3 145 rfl rfl), by decide⟩
theorem c_X11_152 {ω : XO} {rm : Room} {nL : Nat} {κ : XK} {cc : ByteArray} (X : XC ω rm nL κ cc "SignalBlind") (hω : ω.2.2.2.1 = 1) {L : List Nat} {q : Nat → Nat} {h h' : hp} {cells slots pc : Nat} {lv : List (Nat × Value)} {rest : List Value} {o : Nat} {r : Unit} (hf : f_X2_clear h o = some (h', r)) (hs : sd ω.2.2.2.1 o = true) (hk : kdOf h o = 3 + 1) (hR : rm_X2_clear.frames + 1 ≤ rm.frames ∧ 8 + (1 + 11) + rm_X2_clear.locals ≤ rm.locals) (hcs : cells ≤ rm.cells ∧ slots ≤ rm.slots) (hroom : (rest.map fun v => v.category).sum ≤ 8) (hd : decode cc pc = .ok (.invokevirtual 152, 3)) (kk : XG ω rm nL κ L q h' cells slots (pc + 3) lv (rest)) : XG ω rm nL κ L q h cells slots pc lv (.ref (q o) :: rest) := x_callV X [] rest (k_X2_clear hω hf) mt_X2_clear (mT_3 142 rfl rfl) hR ⟨rfl, rfl⟩ hcs hs hk (by decide) rfl rfl hroom hd kk

abbrev rm_X2_become : Room := { frames := 1, cells := 0, slots := 0, locals := 21 }
def f_X2_become_7 : Nat → hp → Nat → Nat → Int32 → Option (hp × Unit)
  | 0, _, _, _, _ => none
  | n + 1, h, a3, a4, a5 => (ckO 1 h a4 4
 (if a5 < (hI h a4 1) then
 (ckO 1 h a4 4
 (ckA 1 h (a4 + 1) 0
 (chk a5 (alen h (a4 + 1))
 (ckO 1 h a3 4
 (bnd (f_X2_add h a3 (aI h (a4 + 1) (a5).toNatClampNeg)) fun h12 r13 =>
 (nm (a5 + (1 : Int32)) fun v15 =>
 ((f_X2_become_7 n) h12 a3 a4 v15)))))))
 else
 (some (h, ()))))
def f_X2_become (h : hp) (o : Nat) (p0 : Nat) : Option (hp × Unit) := (ckO 1 h o 4
 (nm (sI h o 1 (0 : Int32)) fun h2 =>
 (f_X2_become_7 2000 h2 o p0 (0 : Int32))))
set_option maxRecDepth 100000 in
set_option maxHeartbeats 4000000 in
theorem k_X2_become_7 {ω : XO} (hω : ω.2.2.2.1 = 1) {κ : XK} (X : XC ω rm_X2_become 3 κ cX2_become "SignalBlind$Row") {L : List Nat} {q : Nat → Nat} {h' : hp} {r : Unit} (R : XRet ω rm_X2_become κ none L q h' none) : ∀ (n : Nat) (h : hp) (a3 : Nat) (a4 : Nat) (a5 : Int32), f_X2_become_7 n h a3 a4 a5 = some (h', r) → XG ω rm_X2_become 3 κ L q h 0 0 7 [(0, .ref (q a3)), (1, .ref (q a4)), (2, .int a5)] [] := by
  intro n
  induction n with
  | zero =>
    intro h a3 a4 a5 hf
    have hf : (none : Option (hp × Unit)) = some (h', r) := hf
    cases hf
  | succ n ih =>
    intro h a3 a4 a5 hf
    rw [f_X2_become_7] at hf
    refine x_iload_n X dX2_become_7 2 rfl rfl ?_
    refine x_aload_n X dX2_become_8 1 rfl rfl ?_
    obtain ⟨b6, hf⟩ := ckO_some hf
    refine x_geti X (i := a4) fl_X2_7_3 (sd_of hω b6.1) b6.2 rfl dX2_become_9 ?_
    refine x_icmp_ge X 32 dX2_become_12 (by decide) (fun c7 => ?_) (fun c7 => ?_)
    · replace hf := (if_pos c7).symm.trans hf
      refine x_aload_n X dX2_become_15 0 rfl rfl ?_
      refine x_aload_n X dX2_become_16 1 rfl rfl ?_
      obtain ⟨b8, hf⟩ := ckO_some hf
      refine x_getsj X (i := a4) 1 fl_X2_13_3 (sd_of hω b8.1) b8.2 rfl (j := (a4 + 1)) rfl dX2_become_17 ?_
      refine x_iload_n X dX2_become_20 2 rfl rfl ?_
      obtain ⟨b9, hf⟩ := ckA_some hf
      obtain ⟨z10, hf⟩ := chk_some hf
      refine x_iald X (i := (a4 + 1)) (n := (alen h (a4 + 1))) (sd_of hω b9.1) b9.2 z10 dX2_become_21 ?_
      obtain ⟨b11, hf⟩ := ckO_some hf
      obtain ⟨h12, r13, g14, hf⟩ := bnd_some hf
      refine c_X2_17 X hω g14 (sd_of hω b11.1) b11.2 (hR := ⟨Nat.le_of_ble_eq_true rfl, Nat.le_of_ble_eq_true rfl⟩) ⟨Nat.zero_le _, Nat.zero_le _⟩ (Nat.le_of_ble_eq_true rfl) dX2_become_22 ?_
      refine x_pop X dX2_become_25 rfl ?_
      obtain ⟨v15, ev15, hf⟩ := nm_some hf
      refine x_iincN X (v := 1) ev15 [(2, .int v15), (0, .ref (q a3)), (1, .ref (q a4))] dX2_become_26 2 rfl (by decide) (Nat.le_of_ble_eq_true rfl) rfl ?_
      refine x_goto X 7 dX2_become_29 (by decide) ?_
      refine x_lv [1, 2, 0] rfl ?_
      exact ih h12 _ _ _ hf
    · replace hf := (if_neg c7).symm.trans hf
      exact x_retV X R hf dX2_become_32
set_option maxRecDepth 100000 in
set_option maxHeartbeats 4000000 in
theorem k_X2_become {ω : XO} (hω : ω.2.2.2.1 = 1) {L : List Nat} {q : Nat → Nat} {h h' : hp} {o : Nat} {p0 : Nat} {r : Unit} (hf : f_X2_become h o p0 = some (h', r)) : XM ω yX2_become cX2_become 3 none rm_X2_become L q h [.ref (q o), .ref (q p0)] none h' := by
  refine XM_intro [(0, .ref (q o)), (1, .ref (q p0))] "SignalBlind$Row" (by decide) rfl rfl (Nat.le_of_ble_eq_true rfl) (fun κ X R => ?_)
  unfold f_X2_become at hf
  refine x_aload_n X dX2_become_0 0 rfl rfl ?_
  refine x_iconst X (v := 0) dX2_become_1 (by decide) ?_
  obtain ⟨b1, hf⟩ := ckO_some hf
  refine x_puti X (i := o) fl_X2_7_3 fw_3 (sd_of hω b1.1) b1.2 rfl rfl rfl rfl dX2_become_2 ?_
  obtain ⟨h2, eh2, hf⟩ := nm_some hf
  refine x_nmh eh2 ?_
  refine x_iconst X (v := 0) dX2_become_5 (by decide) ?_
  refine x_istore_n X [(2, .int (0 : Int32)), (0, .ref (q o)), (1, .ref (q p0))] dX2_become_6 rfl (Nat.le_of_ble_eq_true rfl) rfl ?_
  refine x_lv [1, 2, 0] rfl ?_
  exact k_X2_become_7 hω X R _ h2 _ _ _ hf
theorem mt_X2_become : MT yX2_become cX2_become 3 none "SignalBlind$Row" 1 := ⟨(mT_4 37 rfl rfl), (mT_4 38 rfl rfl), (mT_1 3 rfl rfl), (mT_4 39 rfl rfl), by decide⟩
theorem c_X3_53 {ω : XO} {rm : Room} {nL : Nat} {κ : XK} {cc : ByteArray} (X : XC ω rm nL κ cc "SignalBlind$Scene") (hω : ω.2.2.2.1 = 1) {L : List Nat} {q : Nat → Nat} {h h' : hp} {cells slots pc : Nat} {lv : List (Nat × Value)} {rest : List Value} {o : Nat} {p0 : Nat} {r : Unit} (hf : f_X2_become h o p0 = some (h', r)) (hs : sd ω.2.2.2.1 o = true) (hk : kdOf h o = 3 + 1) (hR : rm_X2_become.frames + 1 ≤ rm.frames ∧ 8 + (3 + 11) + rm_X2_become.locals ≤ rm.locals) (hcs : cells ≤ rm.cells ∧ slots ≤ rm.slots) (hroom : (rest.map fun v => v.category).sum ≤ 8) (hd : decode cc pc = .ok (.invokevirtual 53, 3)) (kk : XG ω rm nL κ L q h' cells slots (pc + 3) lv (rest)) : XG ω rm nL κ L q h cells slots pc lv (.ref (q p0) :: .ref (q o) :: rest) := x_callV X [.ref (q p0)] rest (k_X2_become hω hf) mt_X2_become (mT_4 36 rfl rfl) hR ⟨rfl, rfl⟩ hcs hs hk (by decide) rfl rfl hroom hd kk

abbrev rm_X3_join : Room := { frames := 0, cells := 0, slots := 0, locals := 0 }
def f_X3_join_27 (h : hp) (a12 : Int32) : Option (hp × Int32) := (some (h, a12))
def f_X3_join (h : hp) (o : Nat) (p0 : Nat) : Option (hp × Int32) := (ckO 1 h o 5
 (nm (hI h o 2) fun v2 =>
 (if v2 < (5 : Int32) then
 (ckO 1 h o 5
 (ckA 1 h (o + 3) 4
 (chk v2 (alen h (o + 3))
 (ckN h (some p0)
 (nm (tR h (o + 3) (v2).toNatClampNeg (some p0)) fun h8 =>
 (ckO 1 h8 o 5
 (ckO 1 h8 o 5
 (nm (sI h8 o 2 ((hI h8 o 2) + (1 : Int32))) fun h11 =>
 (f_X3_join_27 h11 v2)))))))))
 else
 (f_X3_join_27 h v2))))
set_option maxRecDepth 100000 in
set_option maxHeartbeats 4000000 in
theorem k_X3_join_27 {ω : XO} (hω : ω.2.2.2.1 = 1) {κ : XK} (X : XC ω rm_X3_join 3 κ cX3_join "SignalBlind$Scene") {L : List Nat} {q : Nat → Nat} {h' : hp} {r : Int32} (R : XRet ω rm_X3_join κ (some .int) L q h' (some (.int r))) : ∀ (h : hp) (a12 : Int32), f_X3_join_27 h a12 = some (h', r) → XG ω rm_X3_join 3 κ L q h 0 0 27 [(2, .int a12)] [] := by
  intro h a12 hf
  unfold f_X3_join_27 at hf
  refine x_iload_n X dX3_join_27 0 rfl rfl ?_
  exact x_retSI X R hf dX3_join_28
set_option maxRecDepth 100000 in
set_option maxHeartbeats 4000000 in
theorem k_X3_join {ω : XO} (hω : ω.2.2.2.1 = 1) {L : List Nat} {q : Nat → Nat} {h h' : hp} {o : Nat} {p0 : Nat} {r : Int32} (hf : f_X3_join h o p0 = some (h', r)) : XM ω yX3_join cX3_join 3 (some .int) rm_X3_join L q h [.ref (q o), .ref (q p0)] (some (.int r)) h' := by
  refine XM_intro [(0, .ref (q o)), (1, .ref (q p0))] "SignalBlind$Scene" (by decide) rfl rfl (Nat.le_of_ble_eq_true rfl) (fun κ X R => ?_)
  unfold f_X3_join at hf
  refine x_aload_n X dX3_join_0 0 rfl rfl ?_
  obtain ⟨b1, hf⟩ := ckO_some hf
  refine x_geti X (i := o) fl_X3_26_4 (sd_of hω b1.1) b1.2 rfl dX3_join_1 ?_
  obtain ⟨v2, ev2, hf⟩ := nm_some hf
  refine x_nmI ev2 ?_
  refine x_istore_n X [(2, .int v2), (0, .ref (q o)), (1, .ref (q p0))] dX3_join_4 rfl (Nat.le_of_ble_eq_true rfl) rfl ?_
  refine x_iload_n X dX3_join_5 0 rfl rfl ?_
  refine x_iconst X (v := 5) dX3_join_6 (by decide) ?_
  refine x_icmp_ge X 27 dX3_join_7 (by decide) (fun c3 => ?_) (fun c3 => ?_)
  · replace hf := (if_pos c3).symm.trans hf
    refine x_aload_n X dX3_join_10 1 rfl rfl ?_
    obtain ⟨b4, hf⟩ := ckO_some hf
    refine x_getsj X (i := o) 3 fl_X3_22_4 (sd_of hω b4.1) b4.2 rfl (j := (o + 3)) rfl dX3_join_11 ?_
    refine x_iload_n X dX3_join_14 0 rfl rfl ?_
    refine x_aload_n X dX3_join_15 2 rfl rfl ?_
    obtain ⟨b5, hf⟩ := ckA_some hf
    obtain ⟨z6, hf⟩ := chk_some hf
    obtain ⟨b7, hf⟩ := ckN_some hf
    refine x_aast X hω (i := (o + 3)) (n := (alen h (o + 3))) (o := (some p0)) b7 rfl (sd_of hω b5.1) b5.2 z6 dX3_join_16 ?_
    obtain ⟨h8, eh8, hf⟩ := nm_some hf
    refine x_nmh eh8 ?_
    refine x_aload_n X dX3_join_17 1 rfl rfl ?_
    refine x_dup X dX3_join_18 rfl ?_
    obtain ⟨b9, hf⟩ := ckO_some hf
    refine x_geti X (i := o) fl_X3_26_4 (sd_of hω b9.1) b9.2 rfl dX3_join_19 ?_
    refine x_iconst X (v := 1) dX3_join_22 (by decide) ?_
    refine x_iadd X dX3_join_23 ?_
    obtain ⟨b10, hf⟩ := ckO_some hf
    refine x_puti X (i := o) fl_X3_26_4 fw_4 (sd_of hω b10.1) b10.2 rfl rfl rfl rfl dX3_join_24 ?_
    obtain ⟨h11, eh11, hf⟩ := nm_some hf
    refine x_nmh eh11 ?_
    refine x_lv [0] rfl ?_
    exact k_X3_join_27 hω X R h11 _ hf
  · replace hf := (if_neg c3).symm.trans hf
    refine x_lv [0] rfl ?_
    exact k_X3_join_27 hω X R h _ hf
theorem mt_X3_join : MT yX3_join cX3_join 3 (some .int) "SignalBlind$Scene" 1 := ⟨(mT_2 111 rfl rfl), (mT_2 112 rfl rfl), (mT_1 2 rfl rfl), (mT_2 113 rfl rfl), by decide⟩
theorem c_X11_108 {ω : XO} {rm : Room} {nL : Nat} {κ : XK} {cc : ByteArray} (X : XC ω rm nL κ cc "SignalBlind") (hω : ω.2.2.2.1 = 1) {L : List Nat} {q : Nat → Nat} {h h' : hp} {cells slots pc : Nat} {lv : List (Nat × Value)} {rest : List Value} {o : Nat} {p0 : Nat} {r : Int32} (hf : f_X3_join h o p0 = some (h', r)) (hs : sd ω.2.2.2.1 o = true) (hk : kdOf h o = 4 + 1) (hR : rm_X3_join.frames + 1 ≤ rm.frames ∧ 8 + (3 + 11) + rm_X3_join.locals ≤ rm.locals) (hcs : cells ≤ rm.cells ∧ slots ≤ rm.slots) (hroom : (rest.map fun v => v.category).sum ≤ 8) (hd : decode cc pc = .ok (.invokevirtual 108, 3)) (kk : XG ω rm nL κ L q h' cells slots (pc + 3) lv (.int r :: rest)) : XG ω rm nL κ L q h cells slots pc lv (.ref (q p0) :: .ref (q o) :: rest) := x_callV X [.ref (q p0)] rest (k_X3_join hω hf) mt_X3_join (mT_2 110 rfl rfl) hR ⟨rfl, rfl⟩ hcs hs hk (by decide) rfl rfl hroom hd kk

abbrev rm_X3_become : Room := { frames := 2, cells := 0, slots := 0, locals := 84 }
def f_X3_become_46 : Nat → hp → Nat → Nat → Int32 → Option (hp × Unit)
  | 0, _, _, _, _ => none
  | n + 1, h, a21, a22, a23 => (if a23 < (5 : Int32) then
 (ckO 1 h a21 5
 (ckO 1 h a22 5
 (ckA 1 h (a22 + 3) 4
 (chk a23 (alen h (a22 + 3))
 (ckA 1 h (a21 + 3) 4
 (chk a23 (alen h (a21 + 3))
 (ckN h (aR h (a22 + 3) (a23).toNatClampNeg)
 (nm (tR h (a21 + 3) (a23).toNatClampNeg (aR h (a22 + 3) (a23).toNatClampNeg)) fun h32 =>
 (nm (a23 + (1 : Int32)) fun v33 =>
 ((f_X3_become_46 n) h32 a21 a22 v33))))))))))
 else
 (ckO 1 h a22 5
 (ckO 1 h a21 5
 (nm (sI h a21 2 (hI h a22 2)) fun h36 =>
 (ckO 1 h36 a22 5
 (ckO 1 h36 a21 5
 (ckA 1 h36 (a22 + 4) 0
 (ckA 1 h36 (a21 + 4) 0
 (ckC (0 : Int32) (0 : Int32) (5 : Int32) (alen h36 (a22 + 4)) (alen h36 (a21 + 4))
 (nm (cpI h36 (a22 + 4) (a21 + 4) ((0 : Int32)).toNatClampNeg ((0 : Int32)).toNatClampNeg ((5 : Int32)).toNatClampNeg) fun h42 =>
 (ckO 1 h42 a22 5
 (ckO 1 h42 a21 5
 (ckA 1 h42 (a22 + 5) 0
 (ckA 1 h42 (a21 + 5) 0
 (ckC (0 : Int32) (0 : Int32) (20 : Int32) (alen h42 (a22 + 5)) (alen h42 (a21 + 5))
 (nm (cpI h42 (a22 + 5) (a21 + 5) ((0 : Int32)).toNatClampNeg ((0 : Int32)).toNatClampNeg ((20 : Int32)).toNatClampNeg) fun h48 =>
 (ckO 1 h48 a22 5
 (ckO 1 h48 a21 5
 (nm (sI h48 a21 5 (hI h48 a22 5)) fun h51 =>
 (ckO 1 h51 a22 5
 (ckO 1 h51 a21 5
 (ckV h51 (hR h51 a22 9)
 (nm (sR h51 a21 9 (hR h51 a22 9)) fun h55 =>
 (some (h55, ())))))))))))))))))))))))))
def f_X3_become (h : hp) (o : Nat) (p0 : Nat) : Option (hp × Unit) := (ckO 1 h o 5
 (ckO 1 h p0 5
 (ckO 1 h (o + 1) 4
 (bnd (f_X2_become h (o + 1) (p0 + 1)) fun h4 _ =>
 (ckO 1 h4 o 5
 (ckO 1 h4 p0 5
 (ckO 1 h4 (o + 6) 4
 (bnd (f_X2_become h4 (o + 6) (p0 + 6)) fun h9 _ =>
 (ckO 1 h9 o 5
 (ckO 1 h9 p0 5
 (ckO 1 h9 (o + 8) 4
 (bnd (f_X2_become h9 (o + 8) (p0 + 8)) fun h14 _ =>
 (ckO 1 h14 o 5
 (ckO 1 h14 p0 5
 (ckO 1 h14 (o + 10) 4
 (bnd (f_X2_become h14 (o + 10) (p0 + 10)) fun h19 _ =>
 (f_X3_become_46 2000 h19 o p0 (0 : Int32))))))))))))))))))
set_option maxRecDepth 100000 in
set_option maxHeartbeats 4000000 in
theorem k_X3_become_46 {ω : XO} (hω : ω.2.2.2.1 = 1) {κ : XK} (X : XC ω rm_X3_become 3 κ cX3_become "SignalBlind$Scene") {L : List Nat} {q : Nat → Nat} {h' : hp} {r : Unit} (R : XRet ω rm_X3_become κ none L q h' none) : ∀ (n : Nat) (h : hp) (a21 : Nat) (a22 : Nat) (a23 : Int32), f_X3_become_46 n h a21 a22 a23 = some (h', r) → XG ω rm_X3_become 3 κ L q h 0 0 46 [(0, .ref (q a21)), (1, .ref (q a22)), (2, .int a23)] [] := by
  intro n
  induction n with
  | zero =>
    intro h a21 a22 a23 hf
    have hf : (none : Option (hp × Unit)) = some (h', r) := hf
    cases hf
  | succ n ih =>
    intro h a21 a22 a23 hf
    rw [f_X3_become_46] at hf
    refine x_iload_n X dX3_become_46 2 rfl rfl ?_
    refine x_iconst X (v := 5) dX3_become_47 (by decide) ?_
    refine x_icmp_ge X 69 dX3_become_48 (by decide) (fun c24 => ?_) (fun c24 => ?_)
    · replace hf := (if_pos c24).symm.trans hf
      refine x_aload_n X dX3_become_51 0 rfl rfl ?_
      obtain ⟨b25, hf⟩ := ckO_some hf
      refine x_getsj X (i := a21) 3 fl_X3_22_4 (sd_of hω b25.1) b25.2 rfl (j := (a21 + 3)) rfl dX3_become_52 ?_
      refine x_iload_n X dX3_become_55 2 rfl rfl ?_
      refine x_aload_n X dX3_become_56 1 rfl rfl ?_
      obtain ⟨b26, hf⟩ := ckO_some hf
      refine x_getsj X (i := a22) 3 fl_X3_22_4 (sd_of hω b26.1) b26.2 rfl (j := (a22 + 3)) rfl dX3_become_57 ?_
      refine x_iload_n X dX3_become_60 2 rfl rfl ?_
      obtain ⟨b27, hf⟩ := ckA_some hf
      obtain ⟨z28, hf⟩ := chk_some hf
      refine x_aald X (i := (a22 + 3)) (n := (alen h (a22 + 3))) (e := 4) (by decide) (sd_of hω b27.1) b27.2 z28 dX3_become_61 ?_
      obtain ⟨b29, hf⟩ := ckA_some hf
      obtain ⟨z30, hf⟩ := chk_some hf
      obtain ⟨b31, hf⟩ := ckN_some hf
      refine x_aast X hω (i := (a21 + 3)) (n := (alen h (a21 + 3))) (o := (aR h (a22 + 3) (a23).toNatClampNeg)) b31 rfl (sd_of hω b29.1) b29.2 z30 dX3_become_62 ?_
      obtain ⟨h32, eh32, hf⟩ := nm_some hf
      refine x_nmh eh32 ?_
      obtain ⟨v33, ev33, hf⟩ := nm_some hf
      refine x_iincN X (v := 1) ev33 [(2, .int v33), (0, .ref (q a21)), (1, .ref (q a22))] dX3_become_63 2 rfl (by decide) (Nat.le_of_ble_eq_true rfl) rfl ?_
      refine x_goto X 46 dX3_become_66 (by decide) ?_
      refine x_lv [1, 2, 0] rfl ?_
      exact ih h32 _ _ _ hf
    · replace hf := (if_neg c24).symm.trans hf
      refine x_aload_n X dX3_become_69 0 rfl rfl ?_
      refine x_aload_n X dX3_become_70 1 rfl rfl ?_
      obtain ⟨b34, hf⟩ := ckO_some hf
      refine x_geti X (i := a22) fl_X3_26_4 (sd_of hω b34.1) b34.2 rfl dX3_become_71 ?_
      obtain ⟨b35, hf⟩ := ckO_some hf
      refine x_puti X (i := a21) fl_X3_26_4 fw_4 (sd_of hω b35.1) b35.2 rfl rfl rfl rfl dX3_become_74 ?_
      obtain ⟨h36, eh36, hf⟩ := nm_some hf
      refine x_nmh eh36 ?_
      refine x_aload_n X dX3_become_77 1 rfl rfl ?_
      obtain ⟨b37, hf⟩ := ckO_some hf
      refine x_getsj X (i := a22) 4 fl_X3_30_4 (sd_of hω b37.1) b37.2 rfl (j := (a22 + 4)) rfl dX3_become_78 ?_
      refine x_iconst X (v := 0) dX3_become_81 (by decide) ?_
      refine x_aload_n X dX3_become_82 0 rfl rfl ?_
      obtain ⟨b38, hf⟩ := ckO_some hf
      refine x_getsj X (i := a21) 4 fl_X3_30_4 (sd_of hω b38.1) b38.2 rfl (j := (a21 + 4)) rfl dX3_become_83 ?_
      refine x_iconst X (v := 0) dX3_become_86 (by decide) ?_
      refine x_iconst X (v := 5) dX3_become_87 (by decide) ?_
      obtain ⟨b39, hf⟩ := ckA_some hf
      obtain ⟨b40, hf⟩ := ckA_some hf
      obtain ⟨b41, hf⟩ := ckC_some hf
      refine x_copyI_X3_57 X (i := (a22 + 4)) (j := (a21 + 4)) (n0 := (alen h36 (a22 + 4))) (n1 := (alen h36 (a21 + 4))) (sd_of hω b39.1) b39.2 (sd_of hω b40.1) b40.2 b41 (Nat.le_of_ble_eq_true rfl) (by decide +kernel) dX3_become_88 ?_
      obtain ⟨h42, eh42, hf⟩ := nm_some hf
      refine x_nmh eh42 ?_
      refine x_aload_n X dX3_become_91 1 rfl rfl ?_
      obtain ⟨b43, hf⟩ := ckO_some hf
      refine x_getsj X (i := a22) 5 fl_X3_34_4 (sd_of hω b43.1) b43.2 rfl (j := (a22 + 5)) rfl dX3_become_92 ?_
      refine x_iconst X (v := 0) dX3_become_95 (by decide) ?_
      refine x_aload_n X dX3_become_96 0 rfl rfl ?_
      obtain ⟨b44, hf⟩ := ckO_some hf
      refine x_getsj X (i := a21) 5 fl_X3_34_4 (sd_of hω b44.1) b44.2 rfl (j := (a21 + 5)) rfl dX3_become_97 ?_
      refine x_iconst X (v := 0) dX3_become_100 (by decide) ?_
      refine x_bipush X (v := 20) dX3_become_101 (by decide) ?_
      obtain ⟨b45, hf⟩ := ckA_some hf
      obtain ⟨b46, hf⟩ := ckA_some hf
      obtain ⟨b47, hf⟩ := ckC_some hf
      refine x_copyI_X3_57 X (i := (a22 + 5)) (j := (a21 + 5)) (n0 := (alen h42 (a22 + 5))) (n1 := (alen h42 (a21 + 5))) (sd_of hω b45.1) b45.2 (sd_of hω b46.1) b46.2 b47 (Nat.le_of_ble_eq_true rfl) (by decide +kernel) dX3_become_103 ?_
      obtain ⟨h48, eh48, hf⟩ := nm_some hf
      refine x_nmh eh48 ?_
      refine x_aload_n X dX3_become_106 0 rfl rfl ?_
      refine x_aload_n X dX3_become_107 1 rfl rfl ?_
      obtain ⟨b49, hf⟩ := ckO_some hf
      refine x_geti X (i := a22) fl_X3_37_4 (sd_of hω b49.1) b49.2 rfl dX3_become_108 ?_
      obtain ⟨b50, hf⟩ := ckO_some hf
      refine x_puti X (i := a21) fl_X3_37_4 fw_4 (sd_of hω b50.1) b50.2 rfl rfl rfl rfl dX3_become_111 ?_
      obtain ⟨h51, eh51, hf⟩ := nm_some hf
      refine x_nmh eh51 ?_
      refine x_aload_n X dX3_become_114 0 rfl rfl ?_
      refine x_aload_n X dX3_become_115 1 rfl rfl ?_
      obtain ⟨b52, hf⟩ := ckO_some hf
      refine x_getr X (i := a22) fl_X3_49_4 (sd_of hω b52.1) b52.2 rfl dX3_become_116 ?_
      obtain ⟨b53, hf⟩ := ckO_some hf
      obtain ⟨b54, hf⟩ := ckV_some hf
      refine x_putrN X (i := a21) (o := (hR h51 a22 9)) fl_X3_49_4 fw_4 (sd_of hω b53.1) b53.2 rfl rfl (lv_of hω b54) rfl dX3_become_119 ?_
      obtain ⟨h55, eh55, hf⟩ := nm_some hf
      refine x_nmh eh55 ?_
      exact x_retV X R hf dX3_become_122
set_option maxRecDepth 100000 in
set_option maxHeartbeats 4000000 in
theorem k_X3_become {ω : XO} (hω : ω.2.2.2.1 = 1) {L : List Nat} {q : Nat → Nat} {h h' : hp} {o : Nat} {p0 : Nat} {r : Unit} (hf : f_X3_become h o p0 = some (h', r)) : XM ω yX3_become cX3_become 3 none rm_X3_become L q h [.ref (q o), .ref (q p0)] none h' := by
  refine XM_intro [(0, .ref (q o)), (1, .ref (q p0))] "SignalBlind$Scene" (by decide) rfl rfl (Nat.le_of_ble_eq_true rfl) (fun κ X R => ?_)
  unfold f_X3_become at hf
  refine x_aload_n X dX3_become_0 0 rfl rfl ?_
  obtain ⟨b1, hf⟩ := ckO_some hf
  refine x_getsj X (i := o) 1 fl_X3_14_4 (sd_of hω b1.1) b1.2 rfl (j := (o + 1)) rfl dX3_become_1 ?_
  refine x_aload_n X dX3_become_4 1 rfl rfl ?_
  obtain ⟨b2, hf⟩ := ckO_some hf
  refine x_getsj X (i := p0) 1 fl_X3_14_4 (sd_of hω b2.1) b2.2 rfl (j := (p0 + 1)) rfl dX3_become_5 ?_
  obtain ⟨b3, hf⟩ := ckO_some hf
  obtain ⟨h4, uh4, g5, hf⟩ := bnd_some hf
  refine c_X3_53 X hω g5 (sd_of hω b3.1) b3.2 (hR := ⟨Nat.le_of_ble_eq_true rfl, Nat.le_of_ble_eq_true rfl⟩) ⟨Nat.zero_le _, Nat.zero_le _⟩ (Nat.le_of_ble_eq_true rfl) dX3_become_8 ?_
  refine x_aload_n X dX3_become_11 0 rfl rfl ?_
  obtain ⟨b6, hf⟩ := ckO_some hf
  refine x_getsj X (i := o) 6 fl_X3_40_4 (sd_of hω b6.1) b6.2 rfl (j := (o + 6)) rfl dX3_become_12 ?_
  refine x_aload_n X dX3_become_15 1 rfl rfl ?_
  obtain ⟨b7, hf⟩ := ckO_some hf
  refine x_getsj X (i := p0) 6 fl_X3_40_4 (sd_of hω b7.1) b7.2 rfl (j := (p0 + 6)) rfl dX3_become_16 ?_
  obtain ⟨b8, hf⟩ := ckO_some hf
  obtain ⟨h9, uh9, g10, hf⟩ := bnd_some hf
  refine c_X3_53 X hω g10 (sd_of hω b8.1) b8.2 (hR := ⟨Nat.le_of_ble_eq_true rfl, Nat.le_of_ble_eq_true rfl⟩) ⟨Nat.zero_le _, Nat.zero_le _⟩ (Nat.le_of_ble_eq_true rfl) dX3_become_19 ?_
  refine x_aload_n X dX3_become_22 0 rfl rfl ?_
  obtain ⟨b11, hf⟩ := ckO_some hf
  refine x_getsj X (i := o) 8 fl_X3_43_4 (sd_of hω b11.1) b11.2 rfl (j := (o + 8)) rfl dX3_become_23 ?_
  refine x_aload_n X dX3_become_26 1 rfl rfl ?_
  obtain ⟨b12, hf⟩ := ckO_some hf
  refine x_getsj X (i := p0) 8 fl_X3_43_4 (sd_of hω b12.1) b12.2 rfl (j := (p0 + 8)) rfl dX3_become_27 ?_
  obtain ⟨b13, hf⟩ := ckO_some hf
  obtain ⟨h14, uh14, g15, hf⟩ := bnd_some hf
  refine c_X3_53 X hω g15 (sd_of hω b13.1) b13.2 (hR := ⟨Nat.le_of_ble_eq_true rfl, Nat.le_of_ble_eq_true rfl⟩) ⟨Nat.zero_le _, Nat.zero_le _⟩ (Nat.le_of_ble_eq_true rfl) dX3_become_30 ?_
  refine x_aload_n X dX3_become_33 0 rfl rfl ?_
  obtain ⟨b16, hf⟩ := ckO_some hf
  refine x_getsj X (i := o) 10 fl_X3_46_4 (sd_of hω b16.1) b16.2 rfl (j := (o + 10)) rfl dX3_become_34 ?_
  refine x_aload_n X dX3_become_37 1 rfl rfl ?_
  obtain ⟨b17, hf⟩ := ckO_some hf
  refine x_getsj X (i := p0) 10 fl_X3_46_4 (sd_of hω b17.1) b17.2 rfl (j := (p0 + 10)) rfl dX3_become_38 ?_
  obtain ⟨b18, hf⟩ := ckO_some hf
  obtain ⟨h19, uh19, g20, hf⟩ := bnd_some hf
  refine c_X3_53 X hω g20 (sd_of hω b18.1) b18.2 (hR := ⟨Nat.le_of_ble_eq_true rfl, Nat.le_of_ble_eq_true rfl⟩) ⟨Nat.zero_le _, Nat.zero_le _⟩ (Nat.le_of_ble_eq_true rfl) dX3_become_41 ?_
  refine x_iconst X (v := 0) dX3_become_44 (by decide) ?_
  refine x_istore_n X [(2, .int (0 : Int32)), (0, .ref (q o)), (1, .ref (q p0))] dX3_become_45 rfl (Nat.le_of_ble_eq_true rfl) rfl ?_
  refine x_lv [1, 2, 0] rfl ?_
  exact k_X3_become_46 hω X R _ h19 _ _ _ hf
theorem mt_X3_become : MT yX3_become cX3_become 3 none "SignalBlind$Scene" 1 := ⟨(mT_4 33 rfl rfl), (mT_4 34 rfl rfl), (mT_1 2 rfl rfl), (mT_4 35 rfl rfl), by decide⟩
theorem c_X11_228 {ω : XO} {rm : Room} {nL : Nat} {κ : XK} {cc : ByteArray} (X : XC ω rm nL κ cc "SignalBlind") (hω : ω.2.2.2.1 = 1) {L : List Nat} {q : Nat → Nat} {h h' : hp} {cells slots pc : Nat} {lv : List (Nat × Value)} {rest : List Value} {o : Nat} {p0 : Nat} {r : Unit} (hf : f_X3_become h o p0 = some (h', r)) (hs : sd ω.2.2.2.1 o = true) (hk : kdOf h o = 4 + 1) (hR : rm_X3_become.frames + 1 ≤ rm.frames ∧ 8 + (3 + 11) + rm_X3_become.locals ≤ rm.locals) (hcs : cells ≤ rm.cells ∧ slots ≤ rm.slots) (hroom : (rest.map fun v => v.category).sum ≤ 8) (hd : decode cc pc = .ok (.invokevirtual 228, 3)) (kk : XG ω rm nL κ L q h' cells slots (pc + 3) lv (rest)) : XG ω rm nL κ L q h cells slots pc lv (.ref (q p0) :: .ref (q o) :: rest) := x_callV X [.ref (q p0)] rest (k_X3_become hω hf) mt_X3_become (mT_4 32 rfl rfl) hR ⟨rfl, rfl⟩ hcs hs hk (by decide) rfl rfl hroom hd kk

abbrev rm_X4_showing : Room := { frames := 0, cells := 0, slots := 0, locals := 0 }
def f_X4_showing (h : hp) (o : Nat) (p0 : Int32) (p1 : Int32) (p2 : Int32) (p3 : Int32) : Option Int32 := (some p0)
set_option maxRecDepth 100000 in
set_option maxHeartbeats 4000000 in
theorem k_X4_showing {ω : XO} (hω : ω.2.2.2.1 = 1) {L : List Nat} {q : Nat → Nat} {h : hp} {o : Nat} {p0 : Int32} {p1 : Int32} {p2 : Int32} {p3 : Int32} {r : Int32} (hf : f_X4_showing h o p0 p1 p2 p3 = some r) : XM ω yX4_showing cX4_showing 5 (some .int) rm_X4_showing L q h [.ref (q o), .int p0, .int p1, .int p2, .int p3] (some (.int r)) h := by
  refine XM_intro [(0, .ref (q o)), (1, .int p0), (2, .int p1), (3, .int p2), (4, .int p3)] "SignalBlind$Sender" (by decide) rfl rfl (Nat.le_of_ble_eq_true rfl) (fun κ X R => ?_)
  unfold f_X4_showing at hf
  refine x_iload_n X dX4_showing_0 1 rfl rfl ?_
  exact x_retRI X R hf dX4_showing_1
theorem mt_X4_showing : MT yX4_showing cX4_showing 5 (some .int) "SignalBlind$Sender" 4 := ⟨(mT_2 158 rfl rfl), (mT_2 159 rfl rfl), (mT_1 11 rfl rfl), (mT_2 186 rfl rfl), by decide⟩

abbrev rm_X11_turned : Room := { frames := 0, cells := 0, slots := 0, locals := 0 }
def f_X11_turned (h : hp) (p0 : Int32) (p1 : Int32) : Option Int32 := (nz (10 : Int32)
 (nm (p1 - p1 / (10 : Int32) * (10 : Int32)) fun v2 =>
 (some (((p0 <<< (v2 &&& 31)) ||| (p0 >>> (((10 : Int32) - v2) &&& 31))) &&& (1023 : Int32)))))
set_option maxRecDepth 100000 in
set_option maxHeartbeats 4000000 in
theorem k_X11_turned {ω : XO} (hω : ω.2.2.2.1 = 1) {L : List Nat} {q : Nat → Nat} {h : hp} {p0 : Int32} {p1 : Int32} {r : Int32} (hf : f_X11_turned h p0 p1 = some r) : XM ω yX11_turned cX11_turned 3 (some .int) rm_X11_turned L q h [.int p0, .int p1] (some (.int r)) h := by
  refine XM_intro [(0, .int p0), (1, .int p1)] "SignalBlind" (by decide) rfl rfl (Nat.le_of_ble_eq_true rfl) (fun κ X R => ?_)
  unfold f_X11_turned at hf
  refine x_iload_n X dX11_turned_0 1 rfl rfl ?_
  refine x_bipush X (v := 10) dX11_turned_1 (by decide) ?_
  obtain ⟨z1, hf⟩ := nz_some hf
  refine x_irem X dX11_turned_3 z1 ?_
  obtain ⟨v2, ev2, hf⟩ := nm_some hf
  refine x_nmI ev2 ?_
  refine x_istore_n X [(2, .int v2), (0, .int p0), (1, .int p1)] dX11_turned_4 rfl (Nat.le_of_ble_eq_true rfl) rfl ?_
  refine x_iload_n X dX11_turned_5 1 rfl rfl ?_
  refine x_iload_n X dX11_turned_6 0 rfl rfl ?_
  refine x_ishl X dX11_turned_7 ?_
  refine x_iload_n X dX11_turned_8 1 rfl rfl ?_
  refine x_bipush X (v := 10) dX11_turned_9 (by decide) ?_
  refine x_iload_n X dX11_turned_11 0 rfl rfl ?_
  refine x_isub X dX11_turned_12 ?_
  refine x_ishr X dX11_turned_13 ?_
  refine x_ior X dX11_turned_14 ?_
  refine x_sipush X (v := 1023) dX11_turned_15 (by decide) ?_
  refine x_iand X dX11_turned_18 ?_
  exact x_retRI X R hf dX11_turned_19
theorem mt_X11_turned : MS yX11_turned cX11_turned 3 (some .int) 2 := ⟨(mT_2 155 rfl rfl), (mT_1 1 rfl rfl), (mT_2 156 rfl rfl), by decide⟩
theorem c_X7_7 {ω : XO} {rm : Room} {nL : Nat} {κ : XK} {cc : ByteArray} (X : XC ω rm nL κ cc "SignalBlind$Tilted") (hω : ω.2.2.2.1 = 1) {L : List Nat} {q : Nat → Nat} {h : hp} {cells slots pc : Nat} {lv : List (Nat × Value)} {rest : List Value} {p0 : Int32} {p1 : Int32} {r : Int32} (hf : f_X11_turned h p0 p1 = some r) (hR : rm_X11_turned.frames + 1 ≤ rm.frames ∧ 8 + (3 + 11) + rm_X11_turned.locals ≤ rm.locals) (hcs : cells ≤ rm.cells ∧ slots ≤ rm.slots) (hroom : (rest.map fun v => v.category).sum ≤ 8) (hd : decode cc pc = .ok (.invokestatic 7, 3)) (kk : XG ω rm nL κ L q h cells slots (pc + 3) lv (.int r :: rest)) : XG ω rm nL κ L q h cells slots pc lv (.int p1 :: .int p0 :: rest) := x_callSN X [.int p0, .int p1] rest (k_X11_turned hω hf) mt_X11_turned (host := "SignalBlind") (by simp [nwM]) hR ⟨rfl, rfl⟩ hcs rfl hroom hd kk
theorem c_X9_106 {ω : XO} {rm : Room} {nL : Nat} {κ : XK} {cc : ByteArray} (X : XC ω rm nL κ cc "SignalBlind$Ward") (hω : ω.2.2.2.1 = 1) {L : List Nat} {q : Nat → Nat} {h : hp} {cells slots pc : Nat} {lv : List (Nat × Value)} {rest : List Value} {p0 : Int32} {p1 : Int32} {r : Int32} (hf : f_X11_turned h p0 p1 = some r) (hR : rm_X11_turned.frames + 1 ≤ rm.frames ∧ 8 + (3 + 11) + rm_X11_turned.locals ≤ rm.locals) (hcs : cells ≤ rm.cells ∧ slots ≤ rm.slots) (hroom : (rest.map fun v => v.category).sum ≤ 8) (hd : decode cc pc = .ok (.invokestatic 106, 3)) (kk : XG ω rm nL κ L q h cells slots (pc + 3) lv (.int r :: rest)) : XG ω rm nL κ L q h cells slots pc lv (.int p1 :: .int p0 :: rest) := x_callSN X [.int p0, .int p1] rest (k_X11_turned hω hf) mt_X11_turned (host := "SignalBlind") (by simp [nwM]) hR ⟨rfl, rfl⟩ hcs rfl hroom hd kk

abbrev rm_X7_showing : Room := { frames := 1, cells := 0, slots := 0, locals := 22 }
def f_X7_showing (h : hp) (o : Nat) (p0 : Int32) (p1 : Int32) (p2 : Int32) (p3 : Int32) : Option Int32 := (bnr (f_X11_turned h p0 (1 : Int32)) fun r1 =>
 (some r1))
set_option maxRecDepth 100000 in
set_option maxHeartbeats 4000000 in
theorem k_X7_showing {ω : XO} (hω : ω.2.2.2.1 = 1) {L : List Nat} {q : Nat → Nat} {h : hp} {o : Nat} {p0 : Int32} {p1 : Int32} {p2 : Int32} {p3 : Int32} {r : Int32} (hf : f_X7_showing h o p0 p1 p2 p3 = some r) : XM ω yX7_showing cX7_showing 5 (some .int) rm_X7_showing L q h [.ref (q o), .int p0, .int p1, .int p2, .int p3] (some (.int r)) h := by
  refine XM_intro [(0, .ref (q o)), (1, .int p0), (2, .int p1), (3, .int p2), (4, .int p3)] "SignalBlind$Tilted" (by decide) rfl rfl (Nat.le_of_ble_eq_true rfl) (fun κ X R => ?_)
  unfold f_X7_showing at hf
  refine x_iload_n X dX7_showing_0 1 rfl rfl ?_
  refine x_iconst X (v := 1) dX7_showing_1 (by decide) ?_
  obtain ⟨r1, g2, hf⟩ := bnr_some hf
  refine c_X7_7 X hω g2 (hR := ⟨Nat.le_of_ble_eq_true rfl, Nat.le_of_ble_eq_true rfl⟩) ⟨Nat.zero_le _, Nat.zero_le _⟩ (Nat.le_of_ble_eq_true rfl) dX7_showing_2 ?_
  exact x_retRI X R hf dX7_showing_5
theorem c_X5_7 {ω : XO} {rm : Room} {nL : Nat} {κ : XK} {cc : ByteArray} (X : XC ω rm nL κ cc "SignalBlind$Sister") (hω : ω.2.2.2.1 = 1) {L : List Nat} {q : Nat → Nat} {h : hp} {cells slots pc : Nat} {lv : List (Nat × Value)} {rest : List Value} {o : Nat} {p0 : Int32} {p1 : Int32} {p2 : Int32} {p3 : Int32} {r : Int32} (hf : f_X7_showing h o p0 p1 p2 p3 = some r) (hb : sd 1 o = true ∧ kdOf h o ∈ sndK) (hR : rm_X7_showing.frames + 1 ≤ rm.frames ∧ 8 + (5 + 11) + rm_X7_showing.locals ≤ rm.locals) (hcs : cells ≤ rm.cells ∧ slots ≤ rm.slots) (hroom : (rest.map fun v => v.category).sum ≤ 8) (hd : decode cc pc = .ok (.invokespecial 7, 3)) (kk : XG ω rm nL κ L q h cells slots (pc + 3) lv (.int r :: rest)) : XG ω rm nL κ L q h cells slots pc lv (.int p3 :: .int p2 :: .int p1 :: .int p0 :: .ref (q o) :: rest) := by
  have hs := sd_of hω hb.1
  rcases snd_cases hb.2 with e | e | e | e | e | e | e <;> exact x_callSU X [.int p0, .int p1, .int p2, .int p3] rest (k_X7_showing hω hf) (by intro w hw; simp only [List.mem_cons, List.not_mem_nil, or_false] at hw; rcases hw with rfl | rfl | rfl | rfl | rfl <;> first | exact (mT_2 170 rfl rfl) | exact (mT_7 94 rfl rfl) | exact (mT_2 82 rfl rfl) | exact (mT_2 171 rfl rfl) | exact (mT_1 12 rfl rfl)) (mT_2 172 rfl rfl) ⟨by decide, (by decide : (parseMethodDescriptor yX7_showing.desc).map (fun d => d.parameters.length) = some 4)⟩ hR ⟨rfl, rfl⟩ hcs hs e (by decide) rfl rfl hroom hd kk

abbrev rm_X11_mirrored : Room := { frames := 0, cells := 0, slots := 0, locals := 0 }
def f_X11_mirrored_27 (h : hp) (k4 : Int32 → Int32 → Int32 → Option Int32) (a6 : Int32) (a7 : Int32) (a8 : Int32) : Option Int32 := (nm (a8 + (1 : Int32)) fun v9 =>
 (k4 a6 a7 v9))
def f_X11_mirrored_4 (h : hp) : Nat → Int32 → Int32 → Int32 → Option Int32
  | 0, _, _, _ => none
  | n + 1, a1, a2, a3 => (if a3 < (10 : Int32) then
 (if (a1 &&& ((1 : Int32) <<< (a3 &&& 31))) = 0 then
 (f_X11_mirrored_27 h (f_X11_mirrored_4 h n) a1 a2 a3)
 else
 (nm (a2 ||| ((1 : Int32) <<< (((9 : Int32) - a3) &&& 31))) fun v10 =>
 (f_X11_mirrored_27 h (f_X11_mirrored_4 h n) a1 v10 a3)))
 else
 (some a2))
def f_X11_mirrored (h : hp) (p0 : Int32) : Option Int32 := (f_X11_mirrored_4 h 2000 p0 (0 : Int32) (0 : Int32))
set_option maxRecDepth 100000 in
set_option maxHeartbeats 4000000 in
theorem k_X11_mirrored_27 {ω : XO} (hω : ω.2.2.2.1 = 1) {κ : XK} (X : XC ω rm_X11_mirrored 3 κ cX11_mirrored "SignalBlind") {L : List Nat} {q : Nat → Nat} {h : hp} {r : Int32} (R : XRet ω rm_X11_mirrored κ (some .int) L q h (some (.int r))) (k4 : Int32 → Int32 → Int32 → Option Int32) (hk4 : ∀ (a1 : Int32) (a2 : Int32) (a3 : Int32), k4 a1 a2 a3 = some r → XG ω rm_X11_mirrored 3 κ L q h 0 0 4 [(0, .int a1), (1, .int a2), (2, .int a3)] []) : ∀ (a6 : Int32) (a7 : Int32) (a8 : Int32), f_X11_mirrored_27 h k4 a6 a7 a8 = some r → XG ω rm_X11_mirrored 3 κ L q h 0 0 27 [(0, .int a6), (1, .int a7), (2, .int a8)] [] := by
  intro a6 a7 a8 hf
  unfold f_X11_mirrored_27 at hf
  obtain ⟨v9, ev9, hf⟩ := nm_some hf
  refine x_iincN X (v := 1) ev9 [(2, .int v9), (0, .int a6), (1, .int a7)] dX11_mirrored_27 2 rfl (by decide) (Nat.le_of_ble_eq_true rfl) rfl ?_
  refine x_goto X 4 dX11_mirrored_30 (by decide) ?_
  refine x_lv [1, 2, 0] rfl ?_
  exact hk4 _ _ _ hf
set_option maxRecDepth 100000 in
set_option maxHeartbeats 4000000 in
theorem k_X11_mirrored_4 {ω : XO} (hω : ω.2.2.2.1 = 1) {κ : XK} (X : XC ω rm_X11_mirrored 3 κ cX11_mirrored "SignalBlind") {L : List Nat} {q : Nat → Nat} {h : hp} {r : Int32} (R : XRet ω rm_X11_mirrored κ (some .int) L q h (some (.int r))) : ∀ (n : Nat) (a1 : Int32) (a2 : Int32) (a3 : Int32), f_X11_mirrored_4 h n a1 a2 a3 = some r → XG ω rm_X11_mirrored 3 κ L q h 0 0 4 [(0, .int a1), (1, .int a2), (2, .int a3)] [] := by
  intro n
  induction n with
  | zero =>
    intro a1 a2 a3 hf
    have hf : (none : Option Int32) = some r := hf
    cases hf
  | succ n ih =>
    intro a1 a2 a3 hf
    rw [f_X11_mirrored_4] at hf
    refine x_iload_n X dX11_mirrored_4 2 rfl rfl ?_
    refine x_bipush X (v := 10) dX11_mirrored_5 (by decide) ?_
    refine x_icmp_ge X 33 dX11_mirrored_7 (by decide) (fun c4 => ?_) (fun c4 => ?_)
    · replace hf := (if_pos c4).symm.trans hf
      refine x_iload_n X dX11_mirrored_10 0 rfl rfl ?_
      refine x_iconst X (v := 1) dX11_mirrored_11 (by decide) ?_
      refine x_iload_n X dX11_mirrored_12 2 rfl rfl ?_
      refine x_ishl X dX11_mirrored_13 ?_
      refine x_iand X dX11_mirrored_14 ?_
      refine x_if_eq X 27 dX11_mirrored_15 (by decide) (fun c5 => ?_) (fun c5 => ?_)
      · replace hf := (if_pos c5).symm.trans hf
        refine x_lv [0, 1, 2] rfl ?_
        exact k_X11_mirrored_27 hω X R _ ih _ _ _ hf
      · replace hf := (if_neg c5).symm.trans hf
        refine x_iload_n X dX11_mirrored_18 1 rfl rfl ?_
        refine x_iconst X (v := 1) dX11_mirrored_19 (by decide) ?_
        refine x_bipush X (v := 9) dX11_mirrored_20 (by decide) ?_
        refine x_iload_n X dX11_mirrored_22 2 rfl rfl ?_
        refine x_isub X dX11_mirrored_23 ?_
        refine x_ishl X dX11_mirrored_24 ?_
        refine x_ior X dX11_mirrored_25 ?_
        obtain ⟨v10, ev10, hf⟩ := nm_some hf
        refine x_nmI ev10 ?_
        refine x_istore_n X [(1, .int v10), (0, .int a1), (2, .int a3)] dX11_mirrored_26 rfl (Nat.le_of_ble_eq_true rfl) rfl ?_
        refine x_lv [1, 0, 2] rfl ?_
        exact k_X11_mirrored_27 hω X R _ ih _ _ _ hf
    · replace hf := (if_neg c4).symm.trans hf
      refine x_iload_n X dX11_mirrored_33 1 rfl rfl ?_
      exact x_retRI X R hf dX11_mirrored_34
set_option maxRecDepth 100000 in
set_option maxHeartbeats 4000000 in
theorem k_X11_mirrored {ω : XO} (hω : ω.2.2.2.1 = 1) {L : List Nat} {q : Nat → Nat} {h : hp} {p0 : Int32} {r : Int32} (hf : f_X11_mirrored h p0 = some r) : XM ω yX11_mirrored cX11_mirrored 3 (some .int) rm_X11_mirrored L q h [.int p0] (some (.int r)) h := by
  refine XM_intro [(0, .int p0)] "SignalBlind" (by decide) rfl rfl (Nat.le_of_ble_eq_true rfl) (fun κ X R => ?_)
  unfold f_X11_mirrored at hf
  refine x_iconst X (v := 0) dX11_mirrored_0 (by decide) ?_
  refine x_istore_n X [(1, .int (0 : Int32)), (0, .int p0)] dX11_mirrored_1 rfl (Nat.le_of_ble_eq_true rfl) rfl ?_
  refine x_iconst X (v := 0) dX11_mirrored_2 (by decide) ?_
  refine x_istore_n X [(2, .int (0 : Int32)), (1, .int (0 : Int32)), (0, .int p0)] dX11_mirrored_3 rfl (Nat.le_of_ble_eq_true rfl) rfl ?_
  refine x_lv [2, 1, 0] rfl ?_
  exact k_X11_mirrored_4 hω X R _ _ _ _ hf
theorem mt_X11_mirrored : MS yX11_mirrored cX11_mirrored 3 (some .int) 1 := ⟨(mT_2 175 rfl rfl), (mT_1 1 rfl rfl), (mT_2 176 rfl rfl), by decide⟩
theorem c_X5_11 {ω : XO} {rm : Room} {nL : Nat} {κ : XK} {cc : ByteArray} (X : XC ω rm nL κ cc "SignalBlind$Sister") (hω : ω.2.2.2.1 = 1) {L : List Nat} {q : Nat → Nat} {h : hp} {cells slots pc : Nat} {lv : List (Nat × Value)} {rest : List Value} {p0 : Int32} {r : Int32} (hf : f_X11_mirrored h p0 = some r) (hR : rm_X11_mirrored.frames + 1 ≤ rm.frames ∧ 8 + (3 + 11) + rm_X11_mirrored.locals ≤ rm.locals) (hcs : cells ≤ rm.cells ∧ slots ≤ rm.slots) (hroom : (rest.map fun v => v.category).sum ≤ 8) (hd : decode cc pc = .ok (.invokestatic 11, 3)) (kk : XG ω rm nL κ L q h cells slots (pc + 3) lv (.int r :: rest)) : XG ω rm nL κ L q h cells slots pc lv (.int p0 :: rest) := x_callSN X [.int p0] rest (k_X11_mirrored hω hf) mt_X11_mirrored (host := "SignalBlind") (by simp [nwM]) hR ⟨rfl, rfl⟩ hcs rfl hroom hd kk

abbrev rm_X5_showing : Room := { frames := 2, cells := 0, slots := 0, locals := 46 }
def f_X5_showing (h : hp) (o : Nat) (p0 : Int32) (p1 : Int32) (p2 : Int32) (p3 : Int32) : Option Int32 := (ckS h o
 (bnr (f_X7_showing h o p0 p1 p2 p3) fun r2 =>
 (bnr (f_X11_mirrored h r2) fun r4 =>
 (some r4))))
set_option maxRecDepth 100000 in
set_option maxHeartbeats 4000000 in
theorem k_X5_showing {ω : XO} (hω : ω.2.2.2.1 = 1) {L : List Nat} {q : Nat → Nat} {h : hp} {o : Nat} {p0 : Int32} {p1 : Int32} {p2 : Int32} {p3 : Int32} {r : Int32} (hf : f_X5_showing h o p0 p1 p2 p3 = some r) : XM ω yX5_showing cX5_showing 5 (some .int) rm_X5_showing L q h [.ref (q o), .int p0, .int p1, .int p2, .int p3] (some (.int r)) h := by
  refine XM_intro [(0, .ref (q o)), (1, .int p0), (2, .int p1), (3, .int p2), (4, .int p3)] "SignalBlind$Sister" (by decide) rfl rfl (Nat.le_of_ble_eq_true rfl) (fun κ X R => ?_)
  unfold f_X5_showing at hf
  refine x_aload_n X dX5_showing_0 0 rfl rfl ?_
  refine x_iload_n X dX5_showing_1 1 rfl rfl ?_
  refine x_iload_n X dX5_showing_2 2 rfl rfl ?_
  refine x_iload_n X dX5_showing_3 3 rfl rfl ?_
  refine x_iload X dX5_showing_4 4 rfl ?_
  obtain ⟨b1, hf⟩ := ckS_some hf
  obtain ⟨r2, g3, hf⟩ := bnr_some hf
  refine c_X5_7 X hω g3 b1 (hR := ⟨Nat.le_of_ble_eq_true rfl, Nat.le_of_ble_eq_true rfl⟩) ⟨Nat.zero_le _, Nat.zero_le _⟩ (Nat.le_of_ble_eq_true rfl) dX5_showing_6 ?_
  obtain ⟨r4, g5, hf⟩ := bnr_some hf
  refine c_X5_11 X hω g5 (hR := ⟨Nat.le_of_ble_eq_true rfl, Nat.le_of_ble_eq_true rfl⟩) ⟨Nat.zero_le _, Nat.zero_le _⟩ (Nat.le_of_ble_eq_true rfl) dX5_showing_9 ?_
  exact x_retRI X R hf dX5_showing_12

abbrev rm_X6_blank : Room := { frames := 0, cells := 0, slots := 0, locals := 0 }
def f_X6_blank_12 : Nat → hp → Nat → Int32 → Option (hp × Unit)
  | 0, _, _, _ => none
  | n + 1, h, a5, a6 => (if a6 < (60 : Int32) then
 (ckO 1 h a5 8
 (ckA 1 h (a5 + 1) 3
 (chk a6 (alen h (a5 + 1))
 (nm (tL h (a5 + 1) (a6).toNatClampNeg (0 : Int64)) fun h11 =>
 (nm (a6 + (1 : Int32)) fun v12 =>
 ((f_X6_blank_12 n) h11 a5 v12))))))
 else
 (some (h, ())))
def f_X6_blank (h : hp) (o : Nat) (p0 : Int32) (p1 : Int32) : Option (hp × Unit) := (ckO 1 h o 8
 (nm (sI h o 1 p0) fun h2 =>
 (ckO 1 h2 o 8
 (nm (sI h2 o 2 p1) fun h4 =>
 (f_X6_blank_12 2000 h4 o (0 : Int32))))))
set_option maxRecDepth 100000 in
set_option maxHeartbeats 4000000 in
theorem k_X6_blank_12 {ω : XO} (hω : ω.2.2.2.1 = 1) {κ : XK} (X : XC ω rm_X6_blank 4 κ cX6_blank "SignalBlind$Tape") {L : List Nat} {q : Nat → Nat} {h' : hp} {r : Unit} (R : XRet ω rm_X6_blank κ none L q h' none) : ∀ (n : Nat) (h : hp) (a5 : Nat) (a6 : Int32), f_X6_blank_12 n h a5 a6 = some (h', r) → XG ω rm_X6_blank 4 κ L q h 0 0 12 [(0, .ref (q a5)), (3, .int a6)] [] := by
  intro n
  induction n with
  | zero =>
    intro h a5 a6 hf
    have hf : (none : Option (hp × Unit)) = some (h', r) := hf
    cases hf
  | succ n ih =>
    intro h a5 a6 hf
    rw [f_X6_blank_12] at hf
    refine x_iload_n X dX6_blank_12 1 rfl rfl ?_
    refine x_bipush X (v := 60) dX6_blank_13 (by decide) ?_
    refine x_icmp_ge X 31 dX6_blank_15 (by decide) (fun c7 => ?_) (fun c7 => ?_)
    · replace hf := (if_pos c7).symm.trans hf
      refine x_aload_n X dX6_blank_18 0 rfl rfl ?_
      obtain ⟨b8, hf⟩ := ckO_some hf
      refine x_getsj X (i := a5) 1 fl_X6_9_7 (sd_of hω b8.1) b8.2 rfl (j := (a5 + 1)) rfl dX6_blank_19 ?_
      refine x_iload_n X dX6_blank_22 1 rfl rfl ?_
      refine x_lconst X (v := 0) dX6_blank_23 (by decide) ?_
      obtain ⟨b9, hf⟩ := ckA_some hf
      obtain ⟨z10, hf⟩ := chk_some hf
      refine x_last X (i := (a5 + 1)) (n := (alen h (a5 + 1))) (sd_of hω b9.1) b9.2 z10 dX6_blank_24 ?_
      obtain ⟨h11, eh11, hf⟩ := nm_some hf
      refine x_nmh eh11 ?_
      obtain ⟨v12, ev12, hf⟩ := nm_some hf
      refine x_iincN X (v := 1) ev12 [(3, .int v12), (0, .ref (q a5))] dX6_blank_25 1 rfl (by decide) (Nat.le_of_ble_eq_true rfl) rfl ?_
      refine x_goto X 12 dX6_blank_28 (by decide) ?_
      refine x_lv [1, 0] rfl ?_
      exact ih h11 _ _ hf
    · replace hf := (if_neg c7).symm.trans hf
      exact x_retV X R hf dX6_blank_31
set_option maxRecDepth 100000 in
set_option maxHeartbeats 4000000 in
theorem k_X6_blank {ω : XO} (hω : ω.2.2.2.1 = 1) {L : List Nat} {q : Nat → Nat} {h h' : hp} {o : Nat} {p0 : Int32} {p1 : Int32} {r : Unit} (hf : f_X6_blank h o p0 p1 = some (h', r)) : XM ω yX6_blank cX6_blank 4 none rm_X6_blank L q h [.ref (q o), .int p0, .int p1] none h' := by
  refine XM_intro [(0, .ref (q o)), (1, .int p0), (2, .int p1)] "SignalBlind$Tape" (by decide) rfl rfl (Nat.le_of_ble_eq_true rfl) (fun κ X R => ?_)
  unfold f_X6_blank at hf
  refine x_aload_n X dX6_blank_0 0 rfl rfl ?_
  refine x_iload_n X dX6_blank_1 1 rfl rfl ?_
  obtain ⟨b1, hf⟩ := ckO_some hf
  refine x_puti X (i := o) fl_X6_13_7 fw_7 (sd_of hω b1.1) b1.2 rfl rfl rfl rfl dX6_blank_2 ?_
  obtain ⟨h2, eh2, hf⟩ := nm_some hf
  refine x_nmh eh2 ?_
  refine x_aload_n X dX6_blank_5 0 rfl rfl ?_
  refine x_iload_n X dX6_blank_6 2 rfl rfl ?_
  obtain ⟨b3, hf⟩ := ckO_some hf
  refine x_puti X (i := o) fl_X6_17_7 fw_7 (sd_of hω b3.1) b3.2 rfl rfl rfl rfl dX6_blank_7 ?_
  obtain ⟨h4, eh4, hf⟩ := nm_some hf
  refine x_nmh eh4 ?_
  refine x_iconst X (v := 0) dX6_blank_10 (by decide) ?_
  refine x_istore_n X [(3, .int (0 : Int32)), (0, .ref (q o)), (1, .int p0), (2, .int p1)] dX6_blank_11 rfl (Nat.le_of_ble_eq_true rfl) rfl ?_
  refine x_lv [1, 0] rfl ?_
  exact k_X6_blank_12 hω X R _ h4 _ _ hf
theorem mt_X6_blank : MT yX6_blank cX6_blank 4 none "SignalBlind$Tape" 2 := ⟨(mT_5 11 rfl rfl), (mT_5 12 rfl rfl), (mT_1 9 rfl rfl), (mT_5 13 rfl rfl), by decide⟩
theorem c_X11_256 {ω : XO} {rm : Room} {nL : Nat} {κ : XK} {cc : ByteArray} (X : XC ω rm nL κ cc "SignalBlind") (hω : ω.2.2.2.1 = 1) {L : List Nat} {q : Nat → Nat} {h h' : hp} {cells slots pc : Nat} {lv : List (Nat × Value)} {rest : List Value} {o : Nat} {p0 : Int32} {p1 : Int32} {r : Unit} (hf : f_X6_blank h o p0 p1 = some (h', r)) (hs : sd ω.2.2.2.1 o = true) (hk : kdOf h o = 7 + 1) (hR : rm_X6_blank.frames + 1 ≤ rm.frames ∧ 8 + (4 + 11) + rm_X6_blank.locals ≤ rm.locals) (hcs : cells ≤ rm.cells ∧ slots ≤ rm.slots) (hroom : (rest.map fun v => v.category).sum ≤ 8) (hd : decode cc pc = .ok (.invokevirtual 256, 3)) (kk : XG ω rm nL κ L q h' cells slots (pc + 3) lv (rest)) : XG ω rm nL κ L q h cells slots pc lv (.int p1 :: .int p0 :: .ref (q o) :: rest) := x_callV X [.int p0, .int p1] rest (k_X6_blank hω hf) mt_X6_blank (mT_5 10 rfl rfl) hR ⟨rfl, rfl⟩ hcs hs hk (by decide) rfl rfl hroom hd kk

abbrev rm_X6_has : Room := { frames := 0, cells := 0, slots := 0, locals := 0 }
def f_X6_has_17 (h : hp) (a2 : Int32) : Option Int32 := (ckZ a2
 (some a2))
def f_X6_has_16 (h : hp) : Option Int32 := (f_X6_has_17 h (0 : Int32))
def f_X6_has (h : hp) (o : Nat) (p0 : Int32) : Option Int32 := (if p0 < 0 then
 (f_X6_has_16 h)
 else
 (ckO 1 h o 8
 (if p0 < (hI h o 2) then
 (f_X6_has_17 h (1 : Int32))
 else
 (f_X6_has_16 h))))
set_option maxRecDepth 100000 in
set_option maxHeartbeats 4000000 in
theorem k_X6_has_17 {ω : XO} (hω : ω.2.2.2.1 = 1) {κ : XK} (X : XC ω rm_X6_has 2 κ cX6_has "SignalBlind$Tape") {L : List Nat} {q : Nat → Nat} {h : hp} {r : Int32} (R : XRet ω rm_X6_has κ (some .boolean) L q h (some (.int r))) : ∀ (a2 : Int32), f_X6_has_17 h a2 = some r → XG ω rm_X6_has 2 κ L q h 0 0 17 [] [.int a2] := by
  intro a2 hf
  unfold f_X6_has_17 at hf
  obtain ⟨z3, hf⟩ := ckZ_some hf
  exact x_retRZ X R z3 hf dX6_has_17
set_option maxRecDepth 100000 in
set_option maxHeartbeats 4000000 in
theorem k_X6_has_16 {ω : XO} (hω : ω.2.2.2.1 = 1) {κ : XK} (X : XC ω rm_X6_has 2 κ cX6_has "SignalBlind$Tape") {L : List Nat} {q : Nat → Nat} {h : hp} {r : Int32} (R : XRet ω rm_X6_has κ (some .boolean) L q h (some (.int r))) : f_X6_has_16 h = some r → XG ω rm_X6_has 2 κ L q h 0 0 16 [] [] := by
  intro  hf
  unfold f_X6_has_16 at hf
  refine x_iconst X (v := 0) dX6_has_16 (by decide) ?_
  refine x_lv [] rfl ?_
  exact k_X6_has_17 hω X R _ hf
set_option maxRecDepth 100000 in
set_option maxHeartbeats 4000000 in
theorem k_X6_has {ω : XO} (hω : ω.2.2.2.1 = 1) {L : List Nat} {q : Nat → Nat} {h : hp} {o : Nat} {p0 : Int32} {r : Int32} (hf : f_X6_has h o p0 = some r) : XM ω yX6_has cX6_has 2 (some .boolean) rm_X6_has L q h [.ref (q o), .int p0] (some (.int r)) h := by
  refine XM_intro [(0, .ref (q o)), (1, .int p0)] "SignalBlind$Tape" (by decide) rfl rfl (Nat.le_of_ble_eq_true rfl) (fun κ X R => ?_)
  unfold f_X6_has at hf
  refine x_iload_n X dX6_has_0 1 rfl rfl ?_
  refine x_if_lt X 16 dX6_has_1 (by decide) (fun c1 => ?_) (fun c1 => ?_)
  · replace hf := (if_pos c1).symm.trans hf
    refine x_lv [] rfl ?_
    exact k_X6_has_16 hω X R  hf
  · replace hf := (if_neg c1).symm.trans hf
    refine x_iload_n X dX6_has_4 1 rfl rfl ?_
    refine x_aload_n X dX6_has_5 0 rfl rfl ?_
    obtain ⟨b4, hf⟩ := ckO_some hf
    refine x_geti X (i := o) fl_X6_17_7 (sd_of hω b4.1) b4.2 rfl dX6_has_6 ?_
    refine x_icmp_ge X 16 dX6_has_9 (by decide) (fun c5 => ?_) (fun c5 => ?_)
    · replace hf := (if_pos c5).symm.trans hf
      refine x_iconst X (v := 1) dX6_has_12 (by decide) ?_
      refine x_goto X 17 dX6_has_13 (by decide) ?_
      refine x_lv [] rfl ?_
      exact k_X6_has_17 hω X R _ hf
    · replace hf := (if_neg c5).symm.trans hf
      refine x_lv [] rfl ?_
      exact k_X6_has_16 hω X R  hf
theorem mt_X6_has : MT yX6_has cX6_has 2 (some .boolean) "SignalBlind$Tape" 1 := ⟨(mT_4 25 rfl rfl), (mT_4 26 rfl rfl), (mT_1 9 rfl rfl), (mT_4 27 rfl rfl), by decide⟩
theorem c_X11_222 {ω : XO} {rm : Room} {nL : Nat} {κ : XK} {cc : ByteArray} (X : XC ω rm nL κ cc "SignalBlind") (hω : ω.2.2.2.1 = 1) {L : List Nat} {q : Nat → Nat} {h : hp} {cells slots pc : Nat} {lv : List (Nat × Value)} {rest : List Value} {o : Nat} {p0 : Int32} {r : Int32} (hf : f_X6_has h o p0 = some r) (hs : sd ω.2.2.2.1 o = true) (hk : kdOf h o = 7 + 1) (hR : rm_X6_has.frames + 1 ≤ rm.frames ∧ 8 + (2 + 11) + rm_X6_has.locals ≤ rm.locals) (hcs : cells ≤ rm.cells ∧ slots ≤ rm.slots) (hroom : (rest.map fun v => v.category).sum ≤ 8) (hd : decode cc pc = .ok (.invokevirtual 222, 3)) (kk : XG ω rm nL κ L q h cells slots (pc + 3) lv (.int r :: rest)) : XG ω rm nL κ L q h cells slots pc lv (.int p0 :: .ref (q o) :: rest) := x_callV X [.int p0] rest (k_X6_has hω hf) mt_X6_has (mT_4 24 rfl rfl) hR ⟨rfl, rfl⟩ hcs hs hk (by decide) rfl rfl hroom hd kk

abbrev rm_X6_hasSpan : Room := { frames := 0, cells := 0, slots := 0, locals := 0 }
def f_X6_hasSpan_31 (h : hp) (a2 : Int32) : Option Int32 := (ckZ a2
 (some a2))
def f_X6_hasSpan_30 (h : hp) : Option Int32 := (f_X6_hasSpan_31 h (0 : Int32))
def f_X6_hasSpan (h : hp) (o : Nat) (p0 : Int32) (p1 : Int32) : Option Int32 := (if p1 < 0 then
 (f_X6_hasSpan_30 h)
 else
 (ckO 1 h o 8
 (if (hI h o 2) < p1 then
 (f_X6_hasSpan_30 h)
 else
 (if p0 < 0 then
 (f_X6_hasSpan_30 h)
 else
 (ckO 1 h o 8
 (if ((hI h o 2) - p1) < p0 then
 (f_X6_hasSpan_30 h)
 else
 (f_X6_hasSpan_31 h (1 : Int32))))))))
set_option maxRecDepth 100000 in
set_option maxHeartbeats 4000000 in
theorem k_X6_hasSpan_31 {ω : XO} (hω : ω.2.2.2.1 = 1) {κ : XK} (X : XC ω rm_X6_hasSpan 3 κ cX6_hasSpan "SignalBlind$Tape") {L : List Nat} {q : Nat → Nat} {h : hp} {r : Int32} (R : XRet ω rm_X6_hasSpan κ (some .boolean) L q h (some (.int r))) : ∀ (a2 : Int32), f_X6_hasSpan_31 h a2 = some r → XG ω rm_X6_hasSpan 3 κ L q h 0 0 31 [] [.int a2] := by
  intro a2 hf
  unfold f_X6_hasSpan_31 at hf
  obtain ⟨z3, hf⟩ := ckZ_some hf
  exact x_retRZ X R z3 hf dX6_hasSpan_31
set_option maxRecDepth 100000 in
set_option maxHeartbeats 4000000 in
theorem k_X6_hasSpan_30 {ω : XO} (hω : ω.2.2.2.1 = 1) {κ : XK} (X : XC ω rm_X6_hasSpan 3 κ cX6_hasSpan "SignalBlind$Tape") {L : List Nat} {q : Nat → Nat} {h : hp} {r : Int32} (R : XRet ω rm_X6_hasSpan κ (some .boolean) L q h (some (.int r))) : f_X6_hasSpan_30 h = some r → XG ω rm_X6_hasSpan 3 κ L q h 0 0 30 [] [] := by
  intro  hf
  unfold f_X6_hasSpan_30 at hf
  refine x_iconst X (v := 0) dX6_hasSpan_30 (by decide) ?_
  refine x_lv [] rfl ?_
  exact k_X6_hasSpan_31 hω X R _ hf
set_option maxRecDepth 100000 in
set_option maxHeartbeats 4000000 in
theorem k_X6_hasSpan {ω : XO} (hω : ω.2.2.2.1 = 1) {L : List Nat} {q : Nat → Nat} {h : hp} {o : Nat} {p0 : Int32} {p1 : Int32} {r : Int32} (hf : f_X6_hasSpan h o p0 p1 = some r) : XM ω yX6_hasSpan cX6_hasSpan 3 (some .boolean) rm_X6_hasSpan L q h [.ref (q o), .int p0, .int p1] (some (.int r)) h := by
  refine XM_intro [(0, .ref (q o)), (1, .int p0), (2, .int p1)] "SignalBlind$Tape" (by decide) rfl rfl (Nat.le_of_ble_eq_true rfl) (fun κ X R => ?_)
  unfold f_X6_hasSpan at hf
  refine x_iload_n X dX6_hasSpan_0 2 rfl rfl ?_
  refine x_if_lt X 30 dX6_hasSpan_1 (by decide) (fun c1 => ?_) (fun c1 => ?_)
  · replace hf := (if_pos c1).symm.trans hf
    refine x_lv [] rfl ?_
    exact k_X6_hasSpan_30 hω X R  hf
  · replace hf := (if_neg c1).symm.trans hf
    refine x_iload_n X dX6_hasSpan_4 2 rfl rfl ?_
    refine x_aload_n X dX6_hasSpan_5 0 rfl rfl ?_
    obtain ⟨b4, hf⟩ := ckO_some hf
    refine x_geti X (i := o) fl_X6_17_7 (sd_of hω b4.1) b4.2 rfl dX6_hasSpan_6 ?_
    refine x_icmp_gt X 30 dX6_hasSpan_9 (by decide) (fun c5 => ?_) (fun c5 => ?_)
    · replace hf := (if_pos c5).symm.trans hf
      refine x_lv [] rfl ?_
      exact k_X6_hasSpan_30 hω X R  hf
    · replace hf := (if_neg c5).symm.trans hf
      refine x_iload_n X dX6_hasSpan_12 1 rfl rfl ?_
      refine x_if_lt X 30 dX6_hasSpan_13 (by decide) (fun c6 => ?_) (fun c6 => ?_)
      · replace hf := (if_pos c6).symm.trans hf
        refine x_lv [] rfl ?_
        exact k_X6_hasSpan_30 hω X R  hf
      · replace hf := (if_neg c6).symm.trans hf
        refine x_iload_n X dX6_hasSpan_16 1 rfl rfl ?_
        refine x_aload_n X dX6_hasSpan_17 0 rfl rfl ?_
        obtain ⟨b7, hf⟩ := ckO_some hf
        refine x_geti X (i := o) fl_X6_17_7 (sd_of hω b7.1) b7.2 rfl dX6_hasSpan_18 ?_
        refine x_iload_n X dX6_hasSpan_21 2 rfl rfl ?_
        refine x_isub X dX6_hasSpan_22 ?_
        refine x_icmp_gt X 30 dX6_hasSpan_23 (by decide) (fun c8 => ?_) (fun c8 => ?_)
        · replace hf := (if_pos c8).symm.trans hf
          refine x_lv [] rfl ?_
          exact k_X6_hasSpan_30 hω X R  hf
        · replace hf := (if_neg c8).symm.trans hf
          refine x_iconst X (v := 1) dX6_hasSpan_26 (by decide) ?_
          refine x_goto X 31 dX6_hasSpan_27 (by decide) ?_
          refine x_lv [] rfl ?_
          exact k_X6_hasSpan_31 hω X R _ hf
theorem mt_X6_hasSpan : MT yX6_hasSpan cX6_hasSpan 3 (some .boolean) "SignalBlind$Tape" 2 := ⟨(mT_5 30 rfl rfl), (mT_5 31 rfl rfl), (mT_1 9 rfl rfl), (mT_5 32 rfl rfl), by decide⟩
theorem c_X11_263 {ω : XO} {rm : Room} {nL : Nat} {κ : XK} {cc : ByteArray} (X : XC ω rm nL κ cc "SignalBlind") (hω : ω.2.2.2.1 = 1) {L : List Nat} {q : Nat → Nat} {h : hp} {cells slots pc : Nat} {lv : List (Nat × Value)} {rest : List Value} {o : Nat} {p0 : Int32} {p1 : Int32} {r : Int32} (hf : f_X6_hasSpan h o p0 p1 = some r) (hs : sd ω.2.2.2.1 o = true) (hk : kdOf h o = 7 + 1) (hR : rm_X6_hasSpan.frames + 1 ≤ rm.frames ∧ 8 + (3 + 11) + rm_X6_hasSpan.locals ≤ rm.locals) (hcs : cells ≤ rm.cells ∧ slots ≤ rm.slots) (hroom : (rest.map fun v => v.category).sum ≤ 8) (hd : decode cc pc = .ok (.invokevirtual 263, 3)) (kk : XG ω rm nL κ L q h cells slots (pc + 3) lv (.int r :: rest)) : XG ω rm nL κ L q h cells slots pc lv (.int p1 :: .int p0 :: .ref (q o) :: rest) := x_callV X [.int p0, .int p1] rest (k_X6_hasSpan hω hf) mt_X6_hasSpan (mT_5 29 rfl rfl) hR ⟨rfl, rfl⟩ hcs hs hk (by decide) rfl rfl hroom hd kk

abbrev rm_X6_narrowed : Room := { frames := 0, cells := 0, slots := 0, locals := 0 }
def f_X6_narrowed_61 (h : hp) (a7 : Int64) : Option Int64 := (some a7)
def f_X6_narrowed (h : hp) (p0 : Int32) (p1 : Int64) : Option Int64 := (if p0 = (0 : Int32) then
 (some ((((((p1).toInt32)).toInt8.toInt32)).toInt64))
 else
 (if p0 = (1 : Int32) then
 (some ((((((p1).toInt32)).toInt16.toInt32)).toInt64))
 else
 (if p0 = (2 : Int32) then
 (some ((((p1).toInt32)).toInt64))
 else
 (if p0 = (3 : Int32) then
 (some p1)
 else
 (if p0 = (4 : Int32) then
 (if (lg_cmp p1 (0 : Int64)) = 0 then
 (f_X6_narrowed_61 h (0 : Int64))
 else
 (f_X6_narrowed_61 h (1 : Int64)))
 else
 (some p1))))))
set_option maxRecDepth 100000 in
set_option maxHeartbeats 4000000 in
theorem k_X6_narrowed_61 {ω : XO} (hω : ω.2.2.2.1 = 1) {κ : XK} (X : XC ω rm_X6_narrowed 3 κ cX6_narrowed "SignalBlind$Tape") {L : List Nat} {q : Nat → Nat} {h : hp} {r : Int64} (R : XRet ω rm_X6_narrowed κ (some .long) L q h (some (.long r))) : ∀ (a7 : Int64), f_X6_narrowed_61 h a7 = some r → XG ω rm_X6_narrowed 3 κ L q h 0 0 61 [] [.long a7] := by
  intro a7 hf
  unfold f_X6_narrowed_61 at hf
  exact x_retRL X R hf dX6_narrowed_61
set_option maxRecDepth 100000 in
set_option maxHeartbeats 4000000 in
theorem k_X6_narrowed {ω : XO} (hω : ω.2.2.2.1 = 1) {L : List Nat} {q : Nat → Nat} {h : hp} {p0 : Int32} {p1 : Int64} {r : Int64} (hf : f_X6_narrowed h p0 p1 = some r) : XM ω yX6_narrowed cX6_narrowed 3 (some .long) rm_X6_narrowed L q h [.int p0, .long p1] (some (.long r)) h := by
  refine XM_intro [(0, .int p0), (1, .long p1)] "SignalBlind$Tape" (by decide) rfl rfl (Nat.le_of_ble_eq_true rfl) (fun κ X R => ?_)
  unfold f_X6_narrowed at hf
  refine x_iload_n X dX6_narrowed_0 0 rfl rfl ?_
  by_cases s1 : p0 = (0 : Int32)
  · replace hf := (if_pos s1).symm.trans hf
    refine x_tswI X (off := 35) 36 dX6_narrowed_1 s1 (by decide) (by decide) (by decide) (by decide) ?_
    refine x_lload_n X dX6_narrowed_36 1 rfl rfl ?_
    refine x_l2i X dX6_narrowed_37 ?_
    refine x_i2b X dX6_narrowed_38 ?_
    refine x_i2l X dX6_narrowed_39 ?_
    exact x_retRL X R hf dX6_narrowed_40
  · replace hf := (if_neg s1).symm.trans hf
    by_cases s2 : p0 = (1 : Int32)
    · replace hf := (if_pos s2).symm.trans hf
      refine x_tswI X (off := 40) 41 dX6_narrowed_1 s2 (by decide) (by decide) (by decide) (by decide) ?_
      refine x_lload_n X dX6_narrowed_41 1 rfl rfl ?_
      refine x_l2i X dX6_narrowed_42 ?_
      refine x_i2s X dX6_narrowed_43 ?_
      refine x_i2l X dX6_narrowed_44 ?_
      exact x_retRL X R hf dX6_narrowed_45
    · replace hf := (if_neg s2).symm.trans hf
      by_cases s3 : p0 = (2 : Int32)
      · replace hf := (if_pos s3).symm.trans hf
        refine x_tswI X (off := 45) 46 dX6_narrowed_1 s3 (by decide) (by decide) (by decide) (by decide) ?_
        refine x_lload_n X dX6_narrowed_46 1 rfl rfl ?_
        refine x_l2i X dX6_narrowed_47 ?_
        refine x_i2l X dX6_narrowed_48 ?_
        exact x_retRL X R hf dX6_narrowed_49
      · replace hf := (if_neg s3).symm.trans hf
        by_cases s4 : p0 = (3 : Int32)
        · replace hf := (if_pos s4).symm.trans hf
          refine x_tswI X (off := 61) 62 dX6_narrowed_1 s4 (by decide) (by decide) (by decide) (by decide) ?_
          refine x_lload_n X dX6_narrowed_62 1 rfl rfl ?_
          exact x_retRL X R hf dX6_narrowed_63
        · replace hf := (if_neg s4).symm.trans hf
          by_cases s5 : p0 = (4 : Int32)
          · replace hf := (if_pos s5).symm.trans hf
            refine x_tswI X (off := 49) 50 dX6_narrowed_1 s5 (by decide) (by decide) (by decide) (by decide) ?_
            refine x_lload_n X dX6_narrowed_50 1 rfl rfl ?_
            refine x_lconst X (v := 0) dX6_narrowed_51 (by decide) ?_
            refine x_lcmp X dX6_narrowed_52 ?_
            refine x_if_eq X 60 dX6_narrowed_53 (by decide) (fun c6 => ?_) (fun c6 => ?_)
            · replace hf := (if_pos c6).symm.trans hf
              refine x_lconst X (v := 0) dX6_narrowed_60 (by decide) ?_
              refine x_lv [] rfl ?_
              exact k_X6_narrowed_61 hω X R _ hf
            · replace hf := (if_neg c6).symm.trans hf
              refine x_lconst X (v := 1) dX6_narrowed_56 (by decide) ?_
              refine x_goto X 61 dX6_narrowed_57 (by decide) ?_
              refine x_lv [] rfl ?_
              exact k_X6_narrowed_61 hω X R _ hf
          · replace hf := (if_neg s5).symm.trans hf
            refine x_tswO X 62 dX6_narrowed_1 (by have := lv_neT s1 (a := 0) (by decide); have := lv_neT s2 (a := 1) (by decide); have := lv_neT s3 (a := 2) (by decide); have := lv_neT s4 (a := 3) (by decide); have := lv_neT s5 (a := 4) (by decide); omega) (by decide) ?_
            refine x_lload_n X dX6_narrowed_62 1 rfl rfl ?_
            exact x_retRL X R hf dX6_narrowed_63
theorem mt_X6_narrowed : MS yX6_narrowed cX6_narrowed 3 (some .long) 2 := ⟨(mT_5 19 rfl rfl), (mT_1 9 rfl rfl), (mT_5 20 rfl rfl), by decide⟩
theorem c_X11_259 {ω : XO} {rm : Room} {nL : Nat} {κ : XK} {cc : ByteArray} (X : XC ω rm nL κ cc "SignalBlind") (hω : ω.2.2.2.1 = 1) {L : List Nat} {q : Nat → Nat} {h : hp} {cells slots pc : Nat} {lv : List (Nat × Value)} {rest : List Value} {p0 : Int32} {p1 : Int64} {r : Int64} (hf : f_X6_narrowed h p0 p1 = some r) (hR : rm_X6_narrowed.frames + 1 ≤ rm.frames ∧ 8 + (3 + 11) + rm_X6_narrowed.locals ≤ rm.locals) (hcs : cells ≤ rm.cells ∧ slots ≤ rm.slots) (hroom : (rest.map fun v => v.category).sum ≤ 8) (hd : decode cc pc = .ok (.invokestatic 259, 3)) (kk : XG ω rm nL κ L q h cells slots (pc + 3) lv (.long r :: rest)) : XG ω rm nL κ L q h cells slots pc lv (.long p1 :: .int p0 :: rest) := x_callS X [.int p0, .long p1] rest (k_X6_narrowed hω hf) mt_X6_narrowed (mT_5 18 rfl rfl) hR ⟨rfl, rfl⟩ hcs rfl hroom hd kk

abbrev rm_X8_showing : Room := { frames := 1, cells := 0, slots := 0, locals := 24 }
def f_X8_showing (h : hp) (o : Nat) (p0 : Int32) (p1 : Int32) (p2 : Int32) (p3 : Int32) : Option Int32 := (ckS h o
 (bnr (f_X1_showing h o p0 p1 p2 p3) fun r2 =>
 (some (r2 ^^^ p3))))
set_option maxRecDepth 100000 in
set_option maxHeartbeats 4000000 in
theorem k_X8_showing {ω : XO} (hω : ω.2.2.2.1 = 1) {L : List Nat} {q : Nat → Nat} {h : hp} {o : Nat} {p0 : Int32} {p1 : Int32} {p2 : Int32} {p3 : Int32} {r : Int32} (hf : f_X8_showing h o p0 p1 p2 p3 = some r) : XM ω yX8_showing cX8_showing 5 (some .int) rm_X8_showing L q h [.ref (q o), .int p0, .int p1, .int p2, .int p3] (some (.int r)) h := by
  refine XM_intro [(0, .ref (q o)), (1, .int p0), (2, .int p1), (3, .int p2), (4, .int p3)] "SignalBlind$Told" (by decide) rfl rfl (Nat.le_of_ble_eq_true rfl) (fun κ X R => ?_)
  unfold f_X8_showing at hf
  refine x_aload_n X dX8_showing_0 0 rfl rfl ?_
  refine x_iload_n X dX8_showing_1 1 rfl rfl ?_
  refine x_iload_n X dX8_showing_2 2 rfl rfl ?_
  refine x_iload_n X dX8_showing_3 3 rfl rfl ?_
  refine x_iload X dX8_showing_4 4 rfl ?_
  obtain ⟨b1, hf⟩ := ckS_some hf
  obtain ⟨r2, g3, hf⟩ := bnr_some hf
  refine c_X8_7 X hω g3 b1 (hR := ⟨Nat.le_of_ble_eq_true rfl, Nat.le_of_ble_eq_true rfl⟩) ⟨Nat.zero_le _, Nat.zero_le _⟩ (Nat.le_of_ble_eq_true rfl) dX8_showing_6 ?_
  refine x_iload X dX8_showing_9 4 rfl ?_
  refine x_ixor X dX8_showing_11 ?_
  exact x_retRI X R hf dX8_showing_12

abbrev rm_X9_accept : Room := { frames := 0, cells := 0, slots := 0, locals := 0 }
def f_X9_accept_50 (h : hp) (a16 : Int32) : Option (hp × Int32) := (ckZ a16
 (some (h, a16)))
def f_X9_accept_35 (h : hp) (a13 : Nat) (a14 : Int32) : Option (hp × Int32) := (if a14 = 0 then
 (f_X9_accept_50 h a14)
 else
 (ckO 1 h a13 11
 (ckO 1 h a13 11
 (nm (sI h a13 8 ((hI h a13 8) + (1 : Int32))) fun h20 =>
 (f_X9_accept_50 h20 a14)))))
def f_X9_accept_34 (h : hp) (a21 : Nat) : Option (hp × Int32) := (f_X9_accept_35 h a21 (0 : Int32))
def f_X9_accept (h : hp) (o : Nat) (p0 : Int32) : Option (hp × Int32) := (ckO 1 h o 11
 (ckO 1 h o 11
 (onO (hR h o 7) none fun i3 =>
 (ckO 1 h i3 4
 (if (hI h o 8) < (hI h i3 1) then
 (ckO 1 h o 11
 (onO (hR h o 7) none fun i7 =>
 (ckO 1 h i7 4
 (ckO 1 h o 11
 (ckA 1 h (i7 + 1) 0
 (chk (hI h o 8) (alen h (i7 + 1))
 (if (aI h (i7 + 1) ((hI h o 8)).toNatClampNeg) = p0 then
 (f_X9_accept_35 h o (1 : Int32))
 else
 (f_X9_accept_34 h o))))))))
 else
 (f_X9_accept_34 h o))))))
set_option maxRecDepth 100000 in
set_option maxHeartbeats 4000000 in
theorem k_X9_accept_50 {ω : XO} (hω : ω.2.2.2.1 = 1) {κ : XK} (X : XC ω rm_X9_accept 3 κ cX9_accept "SignalBlind$Ward") {L : List Nat} {q : Nat → Nat} {h' : hp} {r : Int32} (R : XRet ω rm_X9_accept κ (some .boolean) L q h' (some (.int r))) : ∀ (h : hp) (a16 : Int32), f_X9_accept_50 h a16 = some (h', r) → XG ω rm_X9_accept 3 κ L q h 0 0 50 [(2, .int a16)] [] := by
  intro h a16 hf
  unfold f_X9_accept_50 at hf
  refine x_iload_n X dX9_accept_50 0 rfl rfl ?_
  obtain ⟨z17, hf⟩ := ckZ_some hf
  exact x_retSZ X R z17 hf dX9_accept_51
set_option maxRecDepth 100000 in
set_option maxHeartbeats 4000000 in
theorem k_X9_accept_35 {ω : XO} (hω : ω.2.2.2.1 = 1) {κ : XK} (X : XC ω rm_X9_accept 3 κ cX9_accept "SignalBlind$Ward") {L : List Nat} {q : Nat → Nat} {h' : hp} {r : Int32} (R : XRet ω rm_X9_accept κ (some .boolean) L q h' (some (.int r))) : ∀ (h : hp) (a13 : Nat) (a14 : Int32), f_X9_accept_35 h a13 a14 = some (h', r) → XG ω rm_X9_accept 3 κ L q h 0 0 35 [(0, .ref (q a13))] [.int a14] := by
  intro h a13 a14 hf
  unfold f_X9_accept_35 at hf
  refine x_istore_n X [(2, .int a14), (0, .ref (q a13))] dX9_accept_35 rfl (Nat.le_of_ble_eq_true rfl) rfl ?_
  refine x_iload_n X dX9_accept_36 0 rfl rfl ?_
  refine x_if_eq X 50 dX9_accept_37 (by decide) (fun c15 => ?_) (fun c15 => ?_)
  · replace hf := (if_pos c15).symm.trans hf
    refine x_lv [0] rfl ?_
    exact k_X9_accept_50 hω X R h _ hf
  · replace hf := (if_neg c15).symm.trans hf
    refine x_aload_n X dX9_accept_40 1 rfl rfl ?_
    refine x_dup X dX9_accept_41 rfl ?_
    obtain ⟨b18, hf⟩ := ckO_some hf
    refine x_geti X (i := a13) fl_X9_38_10 (sd_of hω b18.1) b18.2 rfl dX9_accept_42 ?_
    refine x_iconst X (v := 1) dX9_accept_45 (by decide) ?_
    refine x_iadd X dX9_accept_46 ?_
    obtain ⟨b19, hf⟩ := ckO_some hf
    refine x_puti X (i := a13) fl_X9_38_10 fw_10 (sd_of hω b19.1) b19.2 rfl rfl rfl rfl dX9_accept_47 ?_
    obtain ⟨h20, eh20, hf⟩ := nm_some hf
    refine x_nmh eh20 ?_
    refine x_lv [0] rfl ?_
    exact k_X9_accept_50 hω X R h20 _ hf
set_option maxRecDepth 100000 in
set_option maxHeartbeats 4000000 in
theorem k_X9_accept_34 {ω : XO} (hω : ω.2.2.2.1 = 1) {κ : XK} (X : XC ω rm_X9_accept 3 κ cX9_accept "SignalBlind$Ward") {L : List Nat} {q : Nat → Nat} {h' : hp} {r : Int32} (R : XRet ω rm_X9_accept κ (some .boolean) L q h' (some (.int r))) : ∀ (h : hp) (a21 : Nat), f_X9_accept_34 h a21 = some (h', r) → XG ω rm_X9_accept 3 κ L q h 0 0 34 [(0, .ref (q a21))] [] := by
  intro h a21 hf
  unfold f_X9_accept_34 at hf
  refine x_iconst X (v := 0) dX9_accept_34 (by decide) ?_
  refine x_lv [0] rfl ?_
  exact k_X9_accept_35 hω X R h _ _ hf
set_option maxRecDepth 100000 in
set_option maxHeartbeats 4000000 in
theorem k_X9_accept {ω : XO} (hω : ω.2.2.2.1 = 1) {L : List Nat} {q : Nat → Nat} {h h' : hp} {o : Nat} {p0 : Int32} {r : Int32} (hf : f_X9_accept h o p0 = some (h', r)) : XM ω yX9_accept cX9_accept 3 (some .boolean) rm_X9_accept L q h [.ref (q o), .int p0] (some (.int r)) h' := by
  refine XM_intro [(0, .ref (q o)), (1, .int p0)] "SignalBlind$Ward" (by decide) rfl rfl (Nat.le_of_ble_eq_true rfl) (fun κ X R => ?_)
  unfold f_X9_accept at hf
  refine x_aload_n X dX9_accept_0 0 rfl rfl ?_
  obtain ⟨b1, hf⟩ := ckO_some hf
  refine x_geti X (i := o) fl_X9_38_10 (sd_of hω b1.1) b1.2 rfl dX9_accept_1 ?_
  refine x_aload_n X dX9_accept_4 0 rfl rfl ?_
  obtain ⟨b2, hf⟩ := ckO_some hf
  refine x_getr X (i := o) fl_X9_34_10 (sd_of hω b2.1) b2.2 rfl dX9_accept_5 ?_
  obtain ⟨i3, ei3, hf⟩ := onO_some hf
  refine x_nn ei3 ?_
  obtain ⟨b4, hf⟩ := ckO_some hf
  refine x_geti X (i := i3) fl_X9_49_3 (sd_of hω b4.1) b4.2 rfl dX9_accept_8 ?_
  refine x_icmp_ge X 34 dX9_accept_11 (by decide) (fun c5 => ?_) (fun c5 => ?_)
  · replace hf := (if_pos c5).symm.trans hf
    refine x_aload_n X dX9_accept_14 0 rfl rfl ?_
    obtain ⟨b6, hf⟩ := ckO_some hf
    refine x_getr X (i := o) fl_X9_34_10 (sd_of hω b6.1) b6.2 rfl dX9_accept_15 ?_
    obtain ⟨i7, ei7, hf⟩ := onO_some hf
    refine x_nn ei7 ?_
    obtain ⟨b8, hf⟩ := ckO_some hf
    refine x_getsj X (i := i7) 1 fl_X9_91_3 (sd_of hω b8.1) b8.2 rfl (j := (i7 + 1)) rfl dX9_accept_18 ?_
    refine x_aload_n X dX9_accept_21 0 rfl rfl ?_
    obtain ⟨b9, hf⟩ := ckO_some hf
    refine x_geti X (i := o) fl_X9_38_10 (sd_of hω b9.1) b9.2 rfl dX9_accept_22 ?_
    obtain ⟨b10, hf⟩ := ckA_some hf
    obtain ⟨z11, hf⟩ := chk_some hf
    refine x_iald X (i := (i7 + 1)) (n := (alen h (i7 + 1))) (sd_of hω b10.1) b10.2 z11 dX9_accept_25 ?_
    refine x_iload_n X dX9_accept_26 1 rfl rfl ?_
    refine x_icmp_ne X 34 dX9_accept_27 (by decide) (fun c12 => ?_) (fun c12 => ?_)
    · replace hf := (if_pos c12).symm.trans hf
      refine x_iconst X (v := 1) dX9_accept_30 (by decide) ?_
      refine x_goto X 35 dX9_accept_31 (by decide) ?_
      refine x_lv [0] rfl ?_
      exact k_X9_accept_35 hω X R h _ _ hf
    · replace hf := (if_neg c12).symm.trans hf
      refine x_lv [0] rfl ?_
      exact k_X9_accept_34 hω X R h _ hf
  · replace hf := (if_neg c5).symm.trans hf
    refine x_lv [0] rfl ?_
    exact k_X9_accept_34 hω X R h _ hf
theorem mt_X9_accept : MT yX9_accept cX9_accept 3 (some .boolean) "SignalBlind$Ward" 1 := ⟨(mT_3 117 rfl rfl), (mTp (q := (yX9_accept, 9)) (by decide +kernel) rfl), (mT_1 4 rfl rfl), (mT_3 118 rfl rfl), by decide⟩
theorem c_X9_45 {ω : XO} {rm : Room} {nL : Nat} {κ : XK} {cc : ByteArray} (X : XC ω rm nL κ cc "SignalBlind$Ward") (hω : ω.2.2.2.1 = 1) {L : List Nat} {q : Nat → Nat} {h h' : hp} {cells slots pc : Nat} {lv : List (Nat × Value)} {rest : List Value} {o : Nat} {p0 : Int32} {r : Int32} (hf : f_X9_accept h o p0 = some (h', r)) (hs : sd ω.2.2.2.1 o = true) (hk : kdOf h o = 10 + 1) (hR : rm_X9_accept.frames + 1 ≤ rm.frames ∧ 8 + (3 + 11) + rm_X9_accept.locals ≤ rm.locals) (hcs : cells ≤ rm.cells ∧ slots ≤ rm.slots) (hroom : (rest.map fun v => v.category).sum ≤ 8) (hd : decode cc pc = .ok (.invokevirtual 45, 3)) (kk : XG ω rm nL κ L q h' cells slots (pc + 3) lv (.int r :: rest)) : XG ω rm nL κ L q h cells slots pc lv (.int p0 :: .ref (q o) :: rest) := x_callV X [.int p0] rest (k_X9_accept hω hf) mt_X9_accept (mT_3 115 rfl rfl) hR ⟨rfl, rfl⟩ hcs hs hk (by decide) rfl rfl hroom hd kk

abbrev rm_X9_addStep : Room := { frames := 0, cells := 0, slots := 0, locals := 0 }
def f_X9_addStep_39 (h : hp) (a7 : Int32) : Option (hp × Int32) := (ckZ a7
 (some (h, a7)))
def f_X9_addStep_14 (h : hp) (a3 : Nat) (a4 : Int32) (a5 : Int32) : Option (hp × Int32) := (if a5 = 0 then
 (f_X9_addStep_39 h a5)
 else
 (ckO 1 h a3 11
 (ckO 1 h a3 11
 (ckA 1 h (a3 + 4) 0
 (chk (hI h a3 5) (alen h (a3 + 4))
 (nm (tI h (a3 + 4) ((hI h a3 5)).toNatClampNeg a4) fun h13 =>
 (ckO 1 h13 a3 11
 (ckO 1 h13 a3 11
 (nm (sI h13 a3 5 ((hI h13 a3 5) + (1 : Int32))) fun h16 =>
 (f_X9_addStep_39 h16 a5))))))))))
def f_X9_addStep (h : hp) (o : Nat) (p0 : Int32) : Option (hp × Int32) := (ckO 1 h o 11
 (if (hI h o 5) < (100 : Int32) then
 (f_X9_addStep_14 h o p0 (1 : Int32))
 else
 (f_X9_addStep_14 h o p0 (0 : Int32))))
set_option maxRecDepth 100000 in
set_option maxHeartbeats 4000000 in
theorem k_X9_addStep_39 {ω : XO} (hω : ω.2.2.2.1 = 1) {κ : XK} (X : XC ω rm_X9_addStep 3 κ cX9_addStep "SignalBlind$Ward") {L : List Nat} {q : Nat → Nat} {h' : hp} {r : Int32} (R : XRet ω rm_X9_addStep κ (some .boolean) L q h' (some (.int r))) : ∀ (h : hp) (a7 : Int32), f_X9_addStep_39 h a7 = some (h', r) → XG ω rm_X9_addStep 3 κ L q h 0 0 39 [(2, .int a7)] [] := by
  intro h a7 hf
  unfold f_X9_addStep_39 at hf
  refine x_iload_n X dX9_addStep_39 0 rfl rfl ?_
  obtain ⟨z8, hf⟩ := ckZ_some hf
  exact x_retSZ X R z8 hf dX9_addStep_40
set_option maxRecDepth 100000 in
set_option maxHeartbeats 4000000 in
theorem k_X9_addStep_14 {ω : XO} (hω : ω.2.2.2.1 = 1) {κ : XK} (X : XC ω rm_X9_addStep 3 κ cX9_addStep "SignalBlind$Ward") {L : List Nat} {q : Nat → Nat} {h' : hp} {r : Int32} (R : XRet ω rm_X9_addStep κ (some .boolean) L q h' (some (.int r))) : ∀ (h : hp) (a3 : Nat) (a4 : Int32) (a5 : Int32), f_X9_addStep_14 h a3 a4 a5 = some (h', r) → XG ω rm_X9_addStep 3 κ L q h 0 0 14 [(0, .ref (q a3)), (1, .int a4)] [.int a5] := by
  intro h a3 a4 a5 hf
  unfold f_X9_addStep_14 at hf
  refine x_istore_n X [(2, .int a5), (0, .ref (q a3)), (1, .int a4)] dX9_addStep_14 rfl (Nat.le_of_ble_eq_true rfl) rfl ?_
  refine x_iload_n X dX9_addStep_15 0 rfl rfl ?_
  refine x_if_eq X 39 dX9_addStep_16 (by decide) (fun c6 => ?_) (fun c6 => ?_)
  · replace hf := (if_pos c6).symm.trans hf
    refine x_lv [0] rfl ?_
    exact k_X9_addStep_39 hω X R h _ hf
  · replace hf := (if_neg c6).symm.trans hf
    refine x_aload_n X dX9_addStep_19 1 rfl rfl ?_
    obtain ⟨b9, hf⟩ := ckO_some hf
    refine x_getsj X (i := a3) 4 fl_X9_25_10 (sd_of hω b9.1) b9.2 rfl (j := (a3 + 4)) rfl dX9_addStep_20 ?_
    refine x_aload_n X dX9_addStep_23 1 rfl rfl ?_
    obtain ⟨b10, hf⟩ := ckO_some hf
    refine x_geti X (i := a3) fl_X9_28_10 (sd_of hω b10.1) b10.2 rfl dX9_addStep_24 ?_
    refine x_iload_n X dX9_addStep_27 2 rfl rfl ?_
    obtain ⟨b11, hf⟩ := ckA_some hf
    obtain ⟨z12, hf⟩ := chk_some hf
    refine x_iast X (i := (a3 + 4)) (n := (alen h (a3 + 4))) (sd_of hω b11.1) b11.2 z12 dX9_addStep_28 ?_
    obtain ⟨h13, eh13, hf⟩ := nm_some hf
    refine x_nmh eh13 ?_
    refine x_aload_n X dX9_addStep_29 1 rfl rfl ?_
    refine x_dup X dX9_addStep_30 rfl ?_
    obtain ⟨b14, hf⟩ := ckO_some hf
    refine x_geti X (i := a3) fl_X9_28_10 (sd_of hω b14.1) b14.2 rfl dX9_addStep_31 ?_
    refine x_iconst X (v := 1) dX9_addStep_34 (by decide) ?_
    refine x_iadd X dX9_addStep_35 ?_
    obtain ⟨b15, hf⟩ := ckO_some hf
    refine x_puti X (i := a3) fl_X9_28_10 fw_10 (sd_of hω b15.1) b15.2 rfl rfl rfl rfl dX9_addStep_36 ?_
    obtain ⟨h16, eh16, hf⟩ := nm_some hf
    refine x_nmh eh16 ?_
    refine x_lv [0] rfl ?_
    exact k_X9_addStep_39 hω X R h16 _ hf
set_option maxRecDepth 100000 in
set_option maxHeartbeats 4000000 in
theorem k_X9_addStep {ω : XO} (hω : ω.2.2.2.1 = 1) {L : List Nat} {q : Nat → Nat} {h h' : hp} {o : Nat} {p0 : Int32} {r : Int32} (hf : f_X9_addStep h o p0 = some (h', r)) : XM ω yX9_addStep cX9_addStep 3 (some .boolean) rm_X9_addStep L q h [.ref (q o), .int p0] (some (.int r)) h' := by
  refine XM_intro [(0, .ref (q o)), (1, .int p0)] "SignalBlind$Ward" (by decide) rfl rfl (Nat.le_of_ble_eq_true rfl) (fun κ X R => ?_)
  unfold f_X9_addStep at hf
  refine x_aload_n X dX9_addStep_0 0 rfl rfl ?_
  obtain ⟨b1, hf⟩ := ckO_some hf
  refine x_geti X (i := o) fl_X9_28_10 (sd_of hω b1.1) b1.2 rfl dX9_addStep_1 ?_
  refine x_bipush X (v := 100) dX9_addStep_4 (by decide) ?_
  refine x_icmp_ge X 13 dX9_addStep_6 (by decide) (fun c2 => ?_) (fun c2 => ?_)
  · replace hf := (if_pos c2).symm.trans hf
    refine x_iconst X (v := 1) dX9_addStep_9 (by decide) ?_
    refine x_goto X 14 dX9_addStep_10 (by decide) ?_
    refine x_lv [0, 1] rfl ?_
    exact k_X9_addStep_14 hω X R h _ _ _ hf
  · replace hf := (if_neg c2).symm.trans hf
    refine x_iconst X (v := 0) dX9_addStep_13 (by decide) ?_
    refine x_lv [0, 1] rfl ?_
    exact k_X9_addStep_14 hω X R h _ _ _ hf
theorem mt_X9_addStep : MT yX9_addStep cX9_addStep 3 (some .boolean) "SignalBlind$Ward" 1 := ⟨(mT_3 138 rfl rfl), (mTp (q := (yX9_addStep, 9)) (by decide +kernel) rfl), (mT_1 4 rfl rfl), (mT_3 139 rfl rfl), by decide⟩
theorem c_X9_79 {ω : XO} {rm : Room} {nL : Nat} {κ : XK} {cc : ByteArray} (X : XC ω rm nL κ cc "SignalBlind$Ward") (hω : ω.2.2.2.1 = 1) {L : List Nat} {q : Nat → Nat} {h h' : hp} {cells slots pc : Nat} {lv : List (Nat × Value)} {rest : List Value} {o : Nat} {p0 : Int32} {r : Int32} (hf : f_X9_addStep h o p0 = some (h', r)) (hs : sd ω.2.2.2.1 o = true) (hk : kdOf h o = 10 + 1) (hR : rm_X9_addStep.frames + 1 ≤ rm.frames ∧ 8 + (3 + 11) + rm_X9_addStep.locals ≤ rm.locals) (hcs : cells ≤ rm.cells ∧ slots ≤ rm.slots) (hroom : (rest.map fun v => v.category).sum ≤ 8) (hd : decode cc pc = .ok (.invokevirtual 79, 3)) (kk : XG ω rm nL κ L q h' cells slots (pc + 3) lv (.int r :: rest)) : XG ω rm nL κ L q h cells slots pc lv (.int p0 :: .ref (q o) :: rest) := x_callV X [.int p0] rest (k_X9_addStep hω hf) mt_X9_addStep (mT_3 136 rfl rfl) hR ⟨rfl, rfl⟩ hcs hs hk (by decide) rfl rfl hroom hd kk

abbrev rm_X9_isSo : Room := { frames := 0, cells := 0, slots := 0, locals := 0 }
def f_X9_isSo_16 (h : hp) : Option Int32 := (some (0 : Int32))
def f_X9_isSo_71 (h : hp) (a15 : Int32) : Option Int32 := (ckZ a15
 (some a15))
def f_X9_isSo_83 (h : hp) (a19 : Int32) : Option Int32 := (ckZ a19
 (some a19))
def f_X9_isSo_95 (h : hp) (a22 : Int32) : Option Int32 := (ckZ a22
 (some a22))
def f_X9_isSo (h : hp) (p0 : Int32) (p1 : Nat) : Option Int32 := (nz (300 : Int32)
 (nm (p0 / (300 : Int32)) fun v2 =>
 (if v2 < 0 then
 (f_X9_isSo_16 h)
 else
 (ckA 1 h p1 0
 (if v2 < (Int32.ofNat (alen h p1)) then
 (ckA 1 h p1 0
 (chk v2 (alen h p1)
 (nm (aI h p1 (v2).toNatClampNeg) fun v8 =>
 (nz (100 : Int32)
 (nm (p0 - p0 / (100 : Int32) * (100 : Int32)) fun v10 =>
 (nz (100 : Int32)
 (nz (3 : Int32)
 (if ((p0 / (100 : Int32)) - (p0 / (100 : Int32)) / (3 : Int32) * (3 : Int32)) = (0 : Int32) then
 (if v8 < v10 then
 (f_X9_isSo_71 h (1 : Int32))
 else
 (f_X9_isSo_71 h (0 : Int32)))
 else
 (if ((p0 / (100 : Int32)) - (p0 / (100 : Int32)) / (3 : Int32) * (3 : Int32)) = (1 : Int32) then
 (if v8 = v10 then
 (f_X9_isSo_83 h (1 : Int32))
 else
 (f_X9_isSo_83 h (0 : Int32)))
 else
 (if v10 < v8 then
 (f_X9_isSo_95 h (1 : Int32))
 else
 (f_X9_isSo_95 h (0 : Int32))))))))))))
 else
 (f_X9_isSo_16 h))))))
set_option maxRecDepth 100000 in
set_option maxHeartbeats 4000000 in
theorem k_X9_isSo_16 {ω : XO} (hω : ω.2.2.2.1 = 1) {κ : XK} (X : XC ω rm_X9_isSo 5 κ cX9_isSo "SignalBlind$Ward") {L : List Nat} {q : Nat → Nat} {h : hp} {r : Int32} (R : XRet ω rm_X9_isSo κ (some .boolean) L q h (some (.int r))) : f_X9_isSo_16 h = some r → XG ω rm_X9_isSo 5 κ L q h 0 0 16 [] [] := by
  intro  hf
  unfold f_X9_isSo_16 at hf
  refine x_iconst X (v := 0) dX9_isSo_16 (by decide) ?_
  exact x_retRZ X R (by decide) hf dX9_isSo_17
set_option maxRecDepth 100000 in
set_option maxHeartbeats 4000000 in
theorem k_X9_isSo_71 {ω : XO} (hω : ω.2.2.2.1 = 1) {κ : XK} (X : XC ω rm_X9_isSo 5 κ cX9_isSo "SignalBlind$Ward") {L : List Nat} {q : Nat → Nat} {h : hp} {r : Int32} (R : XRet ω rm_X9_isSo κ (some .boolean) L q h (some (.int r))) : ∀ (a15 : Int32), f_X9_isSo_71 h a15 = some r → XG ω rm_X9_isSo 5 κ L q h 0 0 71 [] [.int a15] := by
  intro a15 hf
  unfold f_X9_isSo_71 at hf
  obtain ⟨z16, hf⟩ := ckZ_some hf
  exact x_retRZ X R z16 hf dX9_isSo_71
set_option maxRecDepth 100000 in
set_option maxHeartbeats 4000000 in
theorem k_X9_isSo_83 {ω : XO} (hω : ω.2.2.2.1 = 1) {κ : XK} (X : XC ω rm_X9_isSo 5 κ cX9_isSo "SignalBlind$Ward") {L : List Nat} {q : Nat → Nat} {h : hp} {r : Int32} (R : XRet ω rm_X9_isSo κ (some .boolean) L q h (some (.int r))) : ∀ (a19 : Int32), f_X9_isSo_83 h a19 = some r → XG ω rm_X9_isSo 5 κ L q h 0 0 83 [] [.int a19] := by
  intro a19 hf
  unfold f_X9_isSo_83 at hf
  obtain ⟨z20, hf⟩ := ckZ_some hf
  exact x_retRZ X R z20 hf dX9_isSo_83
set_option maxRecDepth 100000 in
set_option maxHeartbeats 4000000 in
theorem k_X9_isSo_95 {ω : XO} (hω : ω.2.2.2.1 = 1) {κ : XK} (X : XC ω rm_X9_isSo 5 κ cX9_isSo "SignalBlind$Ward") {L : List Nat} {q : Nat → Nat} {h : hp} {r : Int32} (R : XRet ω rm_X9_isSo κ (some .boolean) L q h (some (.int r))) : ∀ (a22 : Int32), f_X9_isSo_95 h a22 = some r → XG ω rm_X9_isSo 5 κ L q h 0 0 95 [] [.int a22] := by
  intro a22 hf
  unfold f_X9_isSo_95 at hf
  obtain ⟨z23, hf⟩ := ckZ_some hf
  exact x_retRZ X R z23 hf dX9_isSo_95
set_option maxRecDepth 100000 in
set_option maxHeartbeats 4000000 in
theorem k_X9_isSo {ω : XO} (hω : ω.2.2.2.1 = 1) {L : List Nat} {q : Nat → Nat} {h : hp} {p0 : Int32} {p1 : Nat} {r : Int32} (hf : f_X9_isSo h p0 p1 = some r) : XM ω yX9_isSo cX9_isSo 5 (some .boolean) rm_X9_isSo L q h [.int p0, .ref (q p1)] (some (.int r)) h := by
  refine XM_intro [(0, .int p0), (1, .ref (q p1))] "SignalBlind$Ward" (by decide) rfl rfl (Nat.le_of_ble_eq_true rfl) (fun κ X R => ?_)
  unfold f_X9_isSo at hf
  refine x_iload_n X dX9_isSo_0 0 rfl rfl ?_
  refine x_sipush X (v := 300) dX9_isSo_1 (by decide) ?_
  obtain ⟨z1, hf⟩ := nz_some hf
  refine x_idiv X dX9_isSo_4 z1 ?_
  obtain ⟨v2, ev2, hf⟩ := nm_some hf
  refine x_nmI ev2 ?_
  refine x_istore_n X [(2, .int v2), (0, .int p0), (1, .ref (q p1))] dX9_isSo_5 rfl (Nat.le_of_ble_eq_true rfl) rfl ?_
  refine x_iload_n X dX9_isSo_6 0 rfl rfl ?_
  refine x_if_lt X 16 dX9_isSo_7 (by decide) (fun c3 => ?_) (fun c3 => ?_)
  · replace hf := (if_pos c3).symm.trans hf
    refine x_lv [] rfl ?_
    exact k_X9_isSo_16 hω X R  hf
  · replace hf := (if_neg c3).symm.trans hf
    refine x_iload_n X dX9_isSo_10 0 rfl rfl ?_
    refine x_aload_n X dX9_isSo_11 2 rfl rfl ?_
    obtain ⟨b4, hf⟩ := ckA_some hf
    refine x_alen X (i := p1) (n := (alen h p1)) (e := 0) (by decide) (sd_of hω b4.1) b4.2 rfl dX9_isSo_12 ?_
    refine x_icmp_lt X 18 dX9_isSo_13 (by decide) (fun c5 => ?_) (fun c5 => ?_)
    · replace hf := (if_pos c5).symm.trans hf
      refine x_aload_n X dX9_isSo_18 2 rfl rfl ?_
      refine x_iload_n X dX9_isSo_19 0 rfl rfl ?_
      obtain ⟨b6, hf⟩ := ckA_some hf
      obtain ⟨z7, hf⟩ := chk_some hf
      refine x_iald X (i := p1) (n := (alen h p1)) (sd_of hω b6.1) b6.2 z7 dX9_isSo_20 ?_
      obtain ⟨v8, ev8, hf⟩ := nm_some hf
      refine x_nmI ev8 ?_
      refine x_istore_n X [(3, .int v8), (2, .int v2), (0, .int p0), (1, .ref (q p1))] dX9_isSo_21 rfl (Nat.le_of_ble_eq_true rfl) rfl ?_
      refine x_iload_n X dX9_isSo_22 2 rfl rfl ?_
      refine x_bipush X (v := 100) dX9_isSo_23 (by decide) ?_
      obtain ⟨z9, hf⟩ := nz_some hf
      refine x_irem X dX9_isSo_25 z9 ?_
      obtain ⟨v10, ev10, hf⟩ := nm_some hf
      refine x_nmI ev10 ?_
      refine x_istore X [(4, .int v10), (3, .int v8), (2, .int v2), (0, .int p0), (1, .ref (q p1))] dX9_isSo_26 (Nat.le_of_ble_eq_true rfl) rfl ?_
      refine x_iload_n X dX9_isSo_28 3 rfl rfl ?_
      refine x_bipush X (v := 100) dX9_isSo_29 (by decide) ?_
      obtain ⟨z11, hf⟩ := nz_some hf
      refine x_idiv X dX9_isSo_31 z11 ?_
      refine x_iconst X (v := 3) dX9_isSo_32 (by decide) ?_
      obtain ⟨z12, hf⟩ := nz_some hf
      refine x_irem X dX9_isSo_33 z12 ?_
      by_cases s13 : ((p0 / (100 : Int32)) - (p0 / (100 : Int32)) / (3 : Int32) * (3 : Int32)) = (0 : Int32)
      · replace hf := (if_pos s13).symm.trans hf
        refine x_lsw X (off := 26) 60 dX9_isSo_34 (by decide) (by rw [s13]; decide) (by decide) ?_
        refine x_iload_n X dX9_isSo_60 1 rfl rfl ?_
        refine x_iload X dX9_isSo_61 0 rfl ?_
        refine x_icmp_ge X 70 dX9_isSo_63 (by decide) (fun c14 => ?_) (fun c14 => ?_)
        · replace hf := (if_pos c14).symm.trans hf
          refine x_iconst X (v := 1) dX9_isSo_66 (by decide) ?_
          refine x_goto X 71 dX9_isSo_67 (by decide) ?_
          refine x_lv [] rfl ?_
          exact k_X9_isSo_71 hω X R _ hf
        · replace hf := (if_neg c14).symm.trans hf
          refine x_iconst X (v := 0) dX9_isSo_70 (by decide) ?_
          refine x_lv [] rfl ?_
          exact k_X9_isSo_71 hω X R _ hf
      · replace hf := (if_neg s13).symm.trans hf
        by_cases s17 : ((p0 / (100 : Int32)) - (p0 / (100 : Int32)) / (3 : Int32) * (3 : Int32)) = (1 : Int32)
        · replace hf := (if_pos s17).symm.trans hf
          refine x_lsw X (off := 38) 72 dX9_isSo_34 (by decide) (by rw [s17]; decide) (by decide) ?_
          refine x_iload_n X dX9_isSo_72 1 rfl rfl ?_
          refine x_iload X dX9_isSo_73 0 rfl ?_
          refine x_icmp_ne X 82 dX9_isSo_75 (by decide) (fun c18 => ?_) (fun c18 => ?_)
          · replace hf := (if_pos c18).symm.trans hf
            refine x_iconst X (v := 1) dX9_isSo_78 (by decide) ?_
            refine x_goto X 83 dX9_isSo_79 (by decide) ?_
            refine x_lv [] rfl ?_
            exact k_X9_isSo_83 hω X R _ hf
          · replace hf := (if_neg c18).symm.trans hf
            refine x_iconst X (v := 0) dX9_isSo_82 (by decide) ?_
            refine x_lv [] rfl ?_
            exact k_X9_isSo_83 hω X R _ hf
        · replace hf := (if_neg s17).symm.trans hf
          refine x_lsw X (off := 50) 84 dX9_isSo_34 (by decide) ((lv_osw s13 (by decide)).trans ((lv_osw s17 (by decide)).trans rfl)) (by decide) ?_
          refine x_iload_n X dX9_isSo_84 1 rfl rfl ?_
          refine x_iload X dX9_isSo_85 0 rfl ?_
          refine x_icmp_le X 94 dX9_isSo_87 (by decide) (fun c21 => ?_) (fun c21 => ?_)
          · replace hf := (if_pos c21).symm.trans hf
            refine x_iconst X (v := 1) dX9_isSo_90 (by decide) ?_
            refine x_goto X 95 dX9_isSo_91 (by decide) ?_
            refine x_lv [] rfl ?_
            exact k_X9_isSo_95 hω X R _ hf
          · replace hf := (if_neg c21).symm.trans hf
            refine x_iconst X (v := 0) dX9_isSo_94 (by decide) ?_
            refine x_lv [] rfl ?_
            exact k_X9_isSo_95 hω X R _ hf
    · replace hf := (if_neg c5).symm.trans hf
      refine x_lv [] rfl ?_
      exact k_X9_isSo_16 hω X R  hf
theorem mt_X9_isSo : MS yX9_isSo cX9_isSo 5 (some .boolean) 2 := ⟨(mT_2 149 rfl rfl), (mT_1 4 rfl rfl), (mT_2 150 rfl rfl), by decide⟩
theorem c_X9_110 {ω : XO} {rm : Room} {nL : Nat} {κ : XK} {cc : ByteArray} (X : XC ω rm nL κ cc "SignalBlind$Ward") (hω : ω.2.2.2.1 = 1) {L : List Nat} {q : Nat → Nat} {h : hp} {cells slots pc : Nat} {lv : List (Nat × Value)} {rest : List Value} {p0 : Int32} {p1 : Nat} {r : Int32} (hf : f_X9_isSo h p0 p1 = some r) (hR : rm_X9_isSo.frames + 1 ≤ rm.frames ∧ 8 + (5 + 11) + rm_X9_isSo.locals ≤ rm.locals) (hcs : cells ≤ rm.cells ∧ slots ≤ rm.slots) (hroom : (rest.map fun v => v.category).sum ≤ 8) (hd : decode cc pc = .ok (.invokestatic 110, 3)) (kk : XG ω rm nL κ L q h cells slots (pc + 3) lv (.int r :: rest)) : XG ω rm nL κ L q h cells slots pc lv (.ref (q p1) :: .int p0 :: rest) := x_callS X [.int p0, .ref (q p1)] rest (k_X9_isSo hω hf) mt_X9_isSo (mT_2 148 rfl rfl) hR ⟨rfl, rfl⟩ hcs rfl hroom hd kk

abbrev rm_X9_holds : Room := { frames := 1, cells := 0, slots := 0, locals := 24 }
def f_X9_holds_111 (h : hp) (k6 : Nat → Int32 → Nat → Int32 → Int32 → Option Int32) (a14 : Nat) (a15 : Int32) (a16 : Nat) (a17 : Int32) (a18 : Int32) : Option Int32 := (nm (a18 + (1 : Int32)) fun v19 =>
 (k6 a14 a15 a16 a17 v19))
def f_X9_holds_65 (h : hp) (k6 : Nat → Int32 → Nat → Int32 → Int32 → Option Int32) (a22 : Nat) (a23 : Int32) (a24 : Nat) (a25 : Int32) (a26 : Int32) (a27 : Int32) : Option Int32 := (nm (a27 &&& a26) fun v28 =>
 (f_X9_holds_111 h k6 a22 a23 a24 v28 a25))
def f_X9_holds_108 (h : hp) (k6 : Nat → Int32 → Nat → Int32 → Int32 → Option Int32) (a34 : Nat) (a35 : Int32) (a36 : Nat) (a37 : Int32) (a38 : Int32) (a39 : Int32) : Option Int32 := (nm (a39 ||| a38) fun v40 =>
 (f_X9_holds_111 h k6 a34 a35 a36 v40 a37))
def f_X9_holds_130 (h : hp) (a42 : Int32) : Option Int32 := (ckZ a42
 (some a42))
def f_X9_holds_6 (h : hp) : Nat → Nat → Int32 → Nat → Int32 → Int32 → Option Int32
  | 0, _, _, _, _, _ => none
  | n + 1, a1, a2, a3, a4, a5 => (if a5 < a2 then
 (ckO 1 h a1 11
 (ckA 1 h (a1 + 4) 0
 (chk a5 (alen h (a1 + 4))
 (nm (aI h (a1 + 4) (a5).toNatClampNeg) fun v10 =>
 (nm (a4 &&& (1 : Int32)) fun v11 =>
 (if v10 = (-1 : Int32) then
 (nm (a4 ^^^ (1 : Int32)) fun v13 =>
 (f_X9_holds_111 h (f_X9_holds_6 h n) a1 a2 a3 v13 a5))
 else
 (if v10 = (-2 : Int32) then
 (if v11 = (1 : Int32) then
 (f_X9_holds_65 h (f_X9_holds_6 h n) a1 a2 a3 a5 (-1 : Int32) (a4 >>> ((1 : Int32) &&& 31)))
 else
 (f_X9_holds_65 h (f_X9_holds_6 h n) a1 a2 a3 a5 (-2 : Int32) (a4 >>> ((1 : Int32) &&& 31))))
 else
 (if v10 = (-3 : Int32) then
 (nm ((a4 >>> ((1 : Int32) &&& 31)) ||| v11) fun v30 =>
 (f_X9_holds_111 h (f_X9_holds_6 h n) a1 a2 a3 v30 a5))
 else
 (bnr (f_X9_isSo h v10 a3) fun r31 =>
 (if r31 = 0 then
 (f_X9_holds_108 h (f_X9_holds_6 h n) a1 a2 a3 a5 (0 : Int32) (a4 <<< ((1 : Int32) &&& 31)))
 else
 (f_X9_holds_108 h (f_X9_holds_6 h n) a1 a2 a3 a5 (1 : Int32) (a4 <<< ((1 : Int32) &&& 31)))))))))))))
 else
 (if (a4 &&& (1 : Int32)) = (1 : Int32) then
 (f_X9_holds_130 h (1 : Int32))
 else
 (f_X9_holds_130 h (0 : Int32))))
def f_X9_holds (h : hp) (o : Nat) (p0 : Int32) (p1 : Int32) (p2 : Nat) : Option Int32 := (f_X9_holds_6 h 2000 o p1 p2 (0 : Int32) p0)
set_option maxRecDepth 100000 in
set_option maxHeartbeats 4000000 in
theorem k_X9_holds_111 {ω : XO} (hω : ω.2.2.2.1 = 1) {κ : XK} (X : XC ω rm_X9_holds 8 κ cX9_holds "SignalBlind$Ward") {L : List Nat} {q : Nat → Nat} {h : hp} {r : Int32} (R : XRet ω rm_X9_holds κ (some .boolean) L q h (some (.int r))) (k6 : Nat → Int32 → Nat → Int32 → Int32 → Option Int32) (hk6 : ∀ (a1 : Nat) (a2 : Int32) (a3 : Nat) (a4 : Int32) (a5 : Int32), k6 a1 a2 a3 a4 a5 = some r → XG ω rm_X9_holds 8 κ L q h 0 0 6 [(0, .ref (q a1)), (2, .int a2), (3, .ref (q a3)), (4, .int a4), (5, .int a5)] []) : ∀ (a14 : Nat) (a15 : Int32) (a16 : Nat) (a17 : Int32) (a18 : Int32), f_X9_holds_111 h k6 a14 a15 a16 a17 a18 = some r → XG ω rm_X9_holds 8 κ L q h 0 0 111 [(0, .ref (q a14)), (2, .int a15), (3, .ref (q a16)), (4, .int a17), (5, .int a18)] [] := by
  intro a14 a15 a16 a17 a18 hf
  unfold f_X9_holds_111 at hf
  obtain ⟨v19, ev19, hf⟩ := nm_some hf
  refine x_iincN X (v := 1) ev19 [(5, .int v19), (0, .ref (q a14)), (2, .int a15), (3, .ref (q a16)), (4, .int a17)] dX9_holds_111 4 rfl (by decide) (Nat.le_of_ble_eq_true rfl) rfl ?_
  refine x_goto X 6 dX9_holds_114 (by decide) ?_
  refine x_lv [1, 2, 3, 4, 0] rfl ?_
  exact hk6 _ _ _ _ _ hf
set_option maxRecDepth 100000 in
set_option maxHeartbeats 4000000 in
theorem k_X9_holds_65 {ω : XO} (hω : ω.2.2.2.1 = 1) {κ : XK} (X : XC ω rm_X9_holds 8 κ cX9_holds "SignalBlind$Ward") {L : List Nat} {q : Nat → Nat} {h : hp} {r : Int32} (R : XRet ω rm_X9_holds κ (some .boolean) L q h (some (.int r))) (k6 : Nat → Int32 → Nat → Int32 → Int32 → Option Int32) (hk6 : ∀ (a1 : Nat) (a2 : Int32) (a3 : Nat) (a4 : Int32) (a5 : Int32), k6 a1 a2 a3 a4 a5 = some r → XG ω rm_X9_holds 8 κ L q h 0 0 6 [(0, .ref (q a1)), (2, .int a2), (3, .ref (q a3)), (4, .int a4), (5, .int a5)] []) : ∀ (a22 : Nat) (a23 : Int32) (a24 : Nat) (a25 : Int32) (a26 : Int32) (a27 : Int32), f_X9_holds_65 h k6 a22 a23 a24 a25 a26 a27 = some r → XG ω rm_X9_holds 8 κ L q h 0 0 65 [(0, .ref (q a22)), (2, .int a23), (3, .ref (q a24)), (5, .int a25)] [.int a26, .int a27] := by
  intro a22 a23 a24 a25 a26 a27 hf
  unfold f_X9_holds_65 at hf
  refine x_iand X dX9_holds_65 ?_
  obtain ⟨v28, ev28, hf⟩ := nm_some hf
  refine x_nmI ev28 ?_
  refine x_istore X [(4, .int v28), (0, .ref (q a22)), (2, .int a23), (3, .ref (q a24)), (5, .int a25)] dX9_holds_66 (Nat.le_of_ble_eq_true rfl) rfl ?_
  refine x_goto X 111 dX9_holds_68 (by decide) ?_
  refine x_lv [1, 2, 3, 0, 4] rfl ?_
  exact k_X9_holds_111 hω X R _ hk6 _ _ _ _ _ hf
set_option maxRecDepth 100000 in
set_option maxHeartbeats 4000000 in
theorem k_X9_holds_108 {ω : XO} (hω : ω.2.2.2.1 = 1) {κ : XK} (X : XC ω rm_X9_holds 8 κ cX9_holds "SignalBlind$Ward") {L : List Nat} {q : Nat → Nat} {h : hp} {r : Int32} (R : XRet ω rm_X9_holds κ (some .boolean) L q h (some (.int r))) (k6 : Nat → Int32 → Nat → Int32 → Int32 → Option Int32) (hk6 : ∀ (a1 : Nat) (a2 : Int32) (a3 : Nat) (a4 : Int32) (a5 : Int32), k6 a1 a2 a3 a4 a5 = some r → XG ω rm_X9_holds 8 κ L q h 0 0 6 [(0, .ref (q a1)), (2, .int a2), (3, .ref (q a3)), (4, .int a4), (5, .int a5)] []) : ∀ (a34 : Nat) (a35 : Int32) (a36 : Nat) (a37 : Int32) (a38 : Int32) (a39 : Int32), f_X9_holds_108 h k6 a34 a35 a36 a37 a38 a39 = some r → XG ω rm_X9_holds 8 κ L q h 0 0 108 [(0, .ref (q a34)), (2, .int a35), (3, .ref (q a36)), (5, .int a37)] [.int a38, .int a39] := by
  intro a34 a35 a36 a37 a38 a39 hf
  unfold f_X9_holds_108 at hf
  refine x_ior X dX9_holds_108 ?_
  obtain ⟨v40, ev40, hf⟩ := nm_some hf
  refine x_nmI ev40 ?_
  refine x_istore X [(4, .int v40), (0, .ref (q a34)), (2, .int a35), (3, .ref (q a36)), (5, .int a37)] dX9_holds_109 (Nat.le_of_ble_eq_true rfl) rfl ?_
  refine x_lv [1, 2, 3, 0, 4] rfl ?_
  exact k_X9_holds_111 hω X R _ hk6 _ _ _ _ _ hf
set_option maxRecDepth 100000 in
set_option maxHeartbeats 4000000 in
theorem k_X9_holds_130 {ω : XO} (hω : ω.2.2.2.1 = 1) {κ : XK} (X : XC ω rm_X9_holds 8 κ cX9_holds "SignalBlind$Ward") {L : List Nat} {q : Nat → Nat} {h : hp} {r : Int32} (R : XRet ω rm_X9_holds κ (some .boolean) L q h (some (.int r))) : ∀ (a42 : Int32), f_X9_holds_130 h a42 = some r → XG ω rm_X9_holds 8 κ L q h 0 0 130 [] [.int a42] := by
  intro a42 hf
  unfold f_X9_holds_130 at hf
  obtain ⟨z43, hf⟩ := ckZ_some hf
  exact x_retRZ X R z43 hf dX9_holds_130
set_option maxRecDepth 100000 in
set_option maxHeartbeats 4000000 in
theorem k_X9_holds_6 {ω : XO} (hω : ω.2.2.2.1 = 1) {κ : XK} (X : XC ω rm_X9_holds 8 κ cX9_holds "SignalBlind$Ward") {L : List Nat} {q : Nat → Nat} {h : hp} {r : Int32} (R : XRet ω rm_X9_holds κ (some .boolean) L q h (some (.int r))) : ∀ (n : Nat) (a1 : Nat) (a2 : Int32) (a3 : Nat) (a4 : Int32) (a5 : Int32), f_X9_holds_6 h n a1 a2 a3 a4 a5 = some r → XG ω rm_X9_holds 8 κ L q h 0 0 6 [(0, .ref (q a1)), (2, .int a2), (3, .ref (q a3)), (4, .int a4), (5, .int a5)] [] := by
  intro n
  induction n with
  | zero =>
    intro a1 a2 a3 a4 a5 hf
    have hf : (none : Option Int32) = some r := hf
    cases hf
  | succ n ih =>
    intro a1 a2 a3 a4 a5 hf
    rw [f_X9_holds_6] at hf
    refine x_iload X dX9_holds_6 4 rfl ?_
    refine x_iload_n X dX9_holds_8 1 rfl rfl ?_
    refine x_icmp_ge X 117 dX9_holds_9 (by decide) (fun c6 => ?_) (fun c6 => ?_)
    · replace hf := (if_pos c6).symm.trans hf
      refine x_aload_n X dX9_holds_12 0 rfl rfl ?_
      obtain ⟨b7, hf⟩ := ckO_some hf
      refine x_getsj X (i := a1) 4 fl_X9_25_10 (sd_of hω b7.1) b7.2 rfl (j := (a1 + 4)) rfl dX9_holds_13 ?_
      refine x_iload X dX9_holds_16 4 rfl ?_
      obtain ⟨b8, hf⟩ := ckA_some hf
      obtain ⟨z9, hf⟩ := chk_some hf
      refine x_iald X (i := (a1 + 4)) (n := (alen h (a1 + 4))) (sd_of hω b8.1) b8.2 z9 dX9_holds_18 ?_
      obtain ⟨v10, ev10, hf⟩ := nm_some hf
      refine x_nmI ev10 ?_
      refine x_istore X [(6, .int v10), (0, .ref (q a1)), (2, .int a2), (3, .ref (q a3)), (4, .int a4), (5, .int a5)] dX9_holds_19 (Nat.le_of_ble_eq_true rfl) rfl ?_
      refine x_iload X dX9_holds_21 4 rfl ?_
      refine x_iconst X (v := 1) dX9_holds_23 (by decide) ?_
      refine x_iand X dX9_holds_24 ?_
      obtain ⟨v11, ev11, hf⟩ := nm_some hf
      refine x_nmI ev11 ?_
      refine x_istore X [(7, .int v11), (6, .int v10), (0, .ref (q a1)), (2, .int a2), (3, .ref (q a3)), (4, .int a4), (5, .int a5)] dX9_holds_25 (Nat.le_of_ble_eq_true rfl) rfl ?_
      refine x_iload X dX9_holds_27 1 rfl ?_
      refine x_iconst X (v := -1) dX9_holds_29 (by decide) ?_
      refine x_icmp_ne X 42 dX9_holds_30 (by decide) (fun c12 => ?_) (fun c12 => ?_)
      · replace hf := (if_pos c12).symm.trans hf
        refine x_iload X dX9_holds_33 5 rfl ?_
        refine x_iconst X (v := 1) dX9_holds_35 (by decide) ?_
        refine x_ixor X dX9_holds_36 ?_
        obtain ⟨v13, ev13, hf⟩ := nm_some hf
        refine x_nmI ev13 ?_
        refine x_istore X [(4, .int v13), (7, .int v11), (6, .int v10), (0, .ref (q a1)), (2, .int a2), (3, .ref (q a3)), (5, .int a5)] dX9_holds_37 (Nat.le_of_ble_eq_true rfl) rfl ?_
        refine x_goto X 111 dX9_holds_39 (by decide) ?_
        refine x_lv [3, 4, 5, 0, 6] rfl ?_
        exact k_X9_holds_111 hω X R _ ih _ _ _ _ _ hf
      · replace hf := (if_neg c12).symm.trans hf
        refine x_iload X dX9_holds_42 1 rfl ?_
        refine x_bipush X (v := -2) dX9_holds_44 (by decide) ?_
        refine x_icmp_ne X 71 dX9_holds_46 (by decide) (fun c20 => ?_) (fun c20 => ?_)
        · replace hf := (if_pos c20).symm.trans hf
          refine x_iload X dX9_holds_49 5 rfl ?_
          refine x_iconst X (v := 1) dX9_holds_51 (by decide) ?_
          refine x_ishr X dX9_holds_52 ?_
          refine x_iload X dX9_holds_53 0 rfl ?_
          refine x_iconst X (v := 1) dX9_holds_55 (by decide) ?_
          refine x_icmp_ne X 63 dX9_holds_56 (by decide) (fun c21 => ?_) (fun c21 => ?_)
          · replace hf := (if_pos c21).symm.trans hf
            refine x_iconst X (v := -1) dX9_holds_59 (by decide) ?_
            refine x_goto X 65 dX9_holds_60 (by decide) ?_
            refine x_lv [2, 3, 4, 6] rfl ?_
            exact k_X9_holds_65 hω X R _ ih _ _ _ _ _ _ hf
          · replace hf := (if_neg c21).symm.trans hf
            refine x_bipush X (v := -2) dX9_holds_63 (by decide) ?_
            refine x_lv [2, 3, 4, 6] rfl ?_
            exact k_X9_holds_65 hω X R _ ih _ _ _ _ _ _ hf
        · replace hf := (if_neg c20).symm.trans hf
          refine x_iload X dX9_holds_71 1 rfl ?_
          refine x_bipush X (v := -3) dX9_holds_73 (by decide) ?_
          refine x_icmp_ne X 90 dX9_holds_75 (by decide) (fun c29 => ?_) (fun c29 => ?_)
          · replace hf := (if_pos c29).symm.trans hf
            refine x_iload X dX9_holds_78 5 rfl ?_
            refine x_iconst X (v := 1) dX9_holds_80 (by decide) ?_
            refine x_ishr X dX9_holds_81 ?_
            refine x_iload X dX9_holds_82 0 rfl ?_
            refine x_ior X dX9_holds_84 ?_
            obtain ⟨v30, ev30, hf⟩ := nm_some hf
            refine x_nmI ev30 ?_
            refine x_istore X [(4, .int v30), (7, .int v11), (6, .int v10), (0, .ref (q a1)), (2, .int a2), (3, .ref (q a3)), (5, .int a5)] dX9_holds_85 (Nat.le_of_ble_eq_true rfl) rfl ?_
            refine x_goto X 111 dX9_holds_87 (by decide) ?_
            refine x_lv [3, 4, 5, 0, 6] rfl ?_
            exact k_X9_holds_111 hω X R _ ih _ _ _ _ _ hf
          · replace hf := (if_neg c29).symm.trans hf
            refine x_iload X dX9_holds_90 5 rfl ?_
            refine x_iconst X (v := 1) dX9_holds_92 (by decide) ?_
            refine x_ishl X dX9_holds_93 ?_
            refine x_iload X dX9_holds_94 1 rfl ?_
            refine x_aload_n X dX9_holds_96 4 rfl rfl ?_
            obtain ⟨r31, g32, hf⟩ := bnr_some hf
            refine c_X9_110 X hω g32 (hR := ⟨Nat.le_of_ble_eq_true rfl, Nat.le_of_ble_eq_true rfl⟩) ⟨Nat.zero_le _, Nat.zero_le _⟩ (Nat.le_of_ble_eq_true rfl) dX9_holds_97 ?_
            refine x_if_eq X 107 dX9_holds_100 (by decide) (fun c33 => ?_) (fun c33 => ?_)
            · replace hf := (if_pos c33).symm.trans hf
              refine x_iconst X (v := 0) dX9_holds_107 (by decide) ?_
              refine x_lv [2, 3, 4, 6] rfl ?_
              exact k_X9_holds_108 hω X R _ ih _ _ _ _ _ _ hf
            · replace hf := (if_neg c33).symm.trans hf
              refine x_iconst X (v := 1) dX9_holds_103 (by decide) ?_
              refine x_goto X 108 dX9_holds_104 (by decide) ?_
              refine x_lv [2, 3, 4, 6] rfl ?_
              exact k_X9_holds_108 hω X R _ ih _ _ _ _ _ _ hf
    · replace hf := (if_neg c6).symm.trans hf
      refine x_iload X dX9_holds_117 3 rfl ?_
      refine x_iconst X (v := 1) dX9_holds_119 (by decide) ?_
      refine x_iand X dX9_holds_120 ?_
      refine x_iconst X (v := 1) dX9_holds_121 (by decide) ?_
      refine x_icmp_ne X 129 dX9_holds_122 (by decide) (fun c41 => ?_) (fun c41 => ?_)
      · replace hf := (if_pos c41).symm.trans hf
        refine x_iconst X (v := 1) dX9_holds_125 (by decide) ?_
        refine x_goto X 130 dX9_holds_126 (by decide) ?_
        refine x_lv [] rfl ?_
        exact k_X9_holds_130 hω X R _ hf
      · replace hf := (if_neg c41).symm.trans hf
        refine x_iconst X (v := 0) dX9_holds_129 (by decide) ?_
        refine x_lv [] rfl ?_
        exact k_X9_holds_130 hω X R _ hf
set_option maxRecDepth 100000 in
set_option maxHeartbeats 4000000 in
theorem k_X9_holds {ω : XO} (hω : ω.2.2.2.1 = 1) {L : List Nat} {q : Nat → Nat} {h : hp} {o : Nat} {p0 : Int32} {p1 : Int32} {p2 : Nat} {r : Int32} (hf : f_X9_holds h o p0 p1 p2 = some r) : XM ω yX9_holds cX9_holds 8 (some .boolean) rm_X9_holds L q h [.ref (q o), .int p0, .int p1, .ref (q p2)] (some (.int r)) h := by
  refine XM_intro [(0, .ref (q o)), (1, .int p0), (2, .int p1), (3, .ref (q p2))] "SignalBlind$Ward" (by decide) rfl rfl (Nat.le_of_ble_eq_true rfl) (fun κ X R => ?_)
  unfold f_X9_holds at hf
  refine x_iconst X (v := 0) dX9_holds_0 (by decide) ?_
  refine x_istore X [(4, .int (0 : Int32)), (0, .ref (q o)), (1, .int p0), (2, .int p1), (3, .ref (q p2))] dX9_holds_1 (Nat.le_of_ble_eq_true rfl) rfl ?_
  refine x_iload_n X dX9_holds_3 2 rfl rfl ?_
  refine x_istore X [(5, .int p0), (4, .int (0 : Int32)), (0, .ref (q o)), (1, .int p0), (2, .int p1), (3, .ref (q p2))] dX9_holds_4 (Nat.le_of_ble_eq_true rfl) rfl ?_
  refine x_lv [2, 4, 5, 1, 0] rfl ?_
  exact k_X9_holds_6 hω X R _ _ _ _ _ _ hf
theorem mt_X9_holds : MT yX9_holds cX9_holds 8 (some .boolean) "SignalBlind$Ward" 3 := ⟨(mT_2 146 rfl rfl), (mTp (q := (yX9_holds, 9)) (by decide +kernel) rfl), (mT_1 4 rfl rfl), (mT_2 147 rfl rfl), by decide⟩
theorem c_X9_98 {ω : XO} {rm : Room} {nL : Nat} {κ : XK} {cc : ByteArray} (X : XC ω rm nL κ cc "SignalBlind$Ward") (hω : ω.2.2.2.1 = 1) {L : List Nat} {q : Nat → Nat} {h : hp} {cells slots pc : Nat} {lv : List (Nat × Value)} {rest : List Value} {o : Nat} {p0 : Int32} {p1 : Int32} {p2 : Nat} {r : Int32} (hf : f_X9_holds h o p0 p1 p2 = some r) (hs : sd ω.2.2.2.1 o = true) (hk : kdOf h o = 10 + 1) (hR : rm_X9_holds.frames + 1 ≤ rm.frames ∧ 8 + (8 + 11) + rm_X9_holds.locals ≤ rm.locals) (hcs : cells ≤ rm.cells ∧ slots ≤ rm.slots) (hroom : (rest.map fun v => v.category).sum ≤ 8) (hd : decode cc pc = .ok (.invokevirtual 98, 3)) (kk : XG ω rm nL κ L q h cells slots (pc + 3) lv (.int r :: rest)) : XG ω rm nL κ L q h cells slots pc lv (.ref (q p2) :: .int p1 :: .int p0 :: .ref (q o) :: rest) := x_callV X [.int p0, .int p1, .ref (q p2)] rest (k_X9_holds hω hf) mt_X9_holds (mT_2 144 rfl rfl) hR ⟨rfl, rfl⟩ hcs hs hk (by decide) rfl rfl hroom hd kk
