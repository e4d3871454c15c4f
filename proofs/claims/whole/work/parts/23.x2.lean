abbrev rm_X9_moved : Room := { frames := 1, cells := 0, slots := 0, locals := 22 }
def f_X9_moved_33 (h : hp) (a5 : Int32) : Option Int32 := (some a5)
def f_X9_moved (h : hp) (p0 : Int32) (p1 : Int32) (p2 : Int32) : Option Int32 := (nz (10 : Int32)
 (nm ((1 : Int32) <<< ((p1 - p1 / (10 : Int32) * (10 : Int32)) &&& 31)) fun v2 =>
 (if p0 = 0 then
 (some (p2 ||| v2))
 else
 (if p0 = (1 : Int32) then
 (f_X9_moved_33 h (p2 &&& (v2 ^^^ (-1 : Int32))))
 else
 (bnr (f_X11_turned h p2 p1) fun r6 =>
 (f_X9_moved_33 h r6))))))
set_option maxRecDepth 100000 in
set_option maxHeartbeats 4000000 in
theorem k_X9_moved_33 {ω : XO} (hω : ω.2.2.2.1 = 1) {κ : XK} (X : XC ω rm_X9_moved 4 κ cX9_moved "SignalBlind$Ward") {L : List Nat} {q : Nat → Nat} {h : hp} {r : Int32} (R : XRet ω rm_X9_moved κ (some .int) L q h (some (.int r))) : ∀ (a5 : Int32), f_X9_moved_33 h a5 = some r → XG ω rm_X9_moved 4 κ L q h 0 0 33 [] [.int a5] := by
  intro a5 hf
  unfold f_X9_moved_33 at hf
  exact x_retRI X R hf dX9_moved_33
set_option maxRecDepth 100000 in
set_option maxHeartbeats 4000000 in
theorem k_X9_moved {ω : XO} (hω : ω.2.2.2.1 = 1) {L : List Nat} {q : Nat → Nat} {h : hp} {p0 : Int32} {p1 : Int32} {p2 : Int32} {r : Int32} (hf : f_X9_moved h p0 p1 p2 = some r) : XM ω yX9_moved cX9_moved 4 (some .int) rm_X9_moved L q h [.int p0, .int p1, .int p2] (some (.int r)) h := by
  refine XM_intro [(0, .int p0), (1, .int p1), (2, .int p2)] "SignalBlind$Ward" (by decide) rfl rfl (Nat.le_of_ble_eq_true rfl) (fun κ X R => ?_)
  unfold f_X9_moved at hf
  refine x_iconst X (v := 1) dX9_moved_0 (by decide) ?_
  refine x_iload_n X dX9_moved_1 1 rfl rfl ?_
  refine x_bipush X (v := 10) dX9_moved_2 (by decide) ?_
  obtain ⟨z1, hf⟩ := nz_some hf
  refine x_irem X dX9_moved_4 z1 ?_
  refine x_ishl X dX9_moved_5 ?_
  obtain ⟨v2, ev2, hf⟩ := nm_some hf
  refine x_nmI ev2 ?_
  refine x_istore_n X [(3, .int v2), (0, .int p0), (1, .int p1), (2, .int p2)] dX9_moved_6 rfl (Nat.le_of_ble_eq_true rfl) rfl ?_
  refine x_iload_n X dX9_moved_7 1 rfl rfl ?_
  refine x_if_ne X 15 dX9_moved_8 (by decide) (fun c3 => ?_) (fun c3 => ?_)
  · replace hf := (if_pos c3).symm.trans hf
    refine x_iload_n X dX9_moved_11 3 rfl rfl ?_
    refine x_iload_n X dX9_moved_12 0 rfl rfl ?_
    refine x_ior X dX9_moved_13 ?_
    exact x_retRI X R hf dX9_moved_14
  · replace hf := (if_neg c3).symm.trans hf
    refine x_iload_n X dX9_moved_15 1 rfl rfl ?_
    refine x_iconst X (v := 1) dX9_moved_16 (by decide) ?_
    refine x_icmp_ne X 28 dX9_moved_17 (by decide) (fun c4 => ?_) (fun c4 => ?_)
    · replace hf := (if_pos c4).symm.trans hf
      refine x_iload_n X dX9_moved_20 3 rfl rfl ?_
      refine x_iload_n X dX9_moved_21 0 rfl rfl ?_
      refine x_iconst X (v := -1) dX9_moved_22 (by decide) ?_
      refine x_ixor X dX9_moved_23 ?_
      refine x_iand X dX9_moved_24 ?_
      refine x_goto X 33 dX9_moved_25 (by decide) ?_
      refine x_lv [] rfl ?_
      exact k_X9_moved_33 hω X R _ hf
    · replace hf := (if_neg c4).symm.trans hf
      refine x_iload_n X dX9_moved_28 3 rfl rfl ?_
      refine x_iload_n X dX9_moved_29 2 rfl rfl ?_
      obtain ⟨r6, g7, hf⟩ := bnr_some hf
      refine c_X9_106 X hω g7 (hR := ⟨Nat.le_of_ble_eq_true rfl, Nat.le_of_ble_eq_true rfl⟩) ⟨Nat.zero_le _, Nat.zero_le _⟩ (Nat.le_of_ble_eq_true rfl) dX9_moved_30 ?_
      refine x_lv [] rfl ?_
      exact k_X9_moved_33 hω X R _ hf
theorem mt_X9_moved : MS yX9_moved cX9_moved 4 (some .int) 3 := ⟨(mT_2 152 rfl rfl), (mT_1 4 rfl rfl), (mT_2 153 rfl rfl), by decide⟩
theorem c_X9_102 {ω : XO} {rm : Room} {nL : Nat} {κ : XK} {cc : ByteArray} (X : XC ω rm nL κ cc "SignalBlind$Ward") (hω : ω.2.2.2.1 = 1) {L : List Nat} {q : Nat → Nat} {h : hp} {cells slots pc : Nat} {lv : List (Nat × Value)} {rest : List Value} {p0 : Int32} {p1 : Int32} {p2 : Int32} {r : Int32} (hf : f_X9_moved h p0 p1 p2 = some r) (hR : rm_X9_moved.frames + 1 ≤ rm.frames ∧ 8 + (4 + 11) + rm_X9_moved.locals ≤ rm.locals) (hcs : cells ≤ rm.cells ∧ slots ≤ rm.slots) (hroom : (rest.map fun v => v.category).sum ≤ 8) (hd : decode cc pc = .ok (.invokestatic 102, 3)) (kk : XG ω rm nL κ L q h cells slots (pc + 3) lv (.int r :: rest)) : XG ω rm nL κ L q h cells slots pc lv (.int p2 :: .int p1 :: .int p0 :: rest) := x_callS X [.int p0, .int p1, .int p2] rest (k_X9_moved hω hf) mt_X9_moved (mT_2 151 rfl rfl) hR ⟨rfl, rfl⟩ hcs rfl hroom hd kk

abbrev rm_X9_done : Room := { frames := 2, cells := 0, slots := 0, locals := 51 }
def f_X9_done_64 (h : hp) (k8 : Nat → Nat → Int32 → Int32 → Int32 → Option Int32) (a12 : Nat) (a13 : Nat) (a14 : Int32) (a15 : Int32) : Option Int32 := (ckO 1 h a12 11
 (ckA 1 h (a12 + 3) 0
 (chk a15 (alen h (a12 + 3))
 (nm (aI h (a12 + 3) (a15).toNatClampNeg) fun v19 =>
 (nm (a15 + (1 : Int32)) fun v20 =>
 (k8 a12 a13 a14 v19 v20))))))
def f_X9_done_8 (h : hp) : Nat → Nat → Nat → Int32 → Int32 → Int32 → Option Int32
  | 0, _, _, _, _, _ => none
  | n + 1, a1, a2, a3, a4, a5 => (ckO 1 h a1 11
 (if a5 < (hI h a1 3) then
 (ckO 1 h a1 11
 (ckA 1 h (a1 + 1) 0
 (chk a5 (alen h (a1 + 1))
 (if (aI h (a1 + 1) (a5).toNatClampNeg) = (3 : Int32) then
 (f_X9_done_64 h (f_X9_done_8 h n) a1 a2 a3 a5)
 else
 (ckO 1 h a1 11
 (ckA 1 h (a1 + 3) 0
 (chk a5 (alen h (a1 + 3))
 (ckO 1 h a1 11
 (bnr (f_X9_holds h a1 a4 (aI h (a1 + 3) (a5).toNatClampNeg) a2) fun r25 =>
 (if r25 = 0 then
 (f_X9_done_64 h (f_X9_done_8 h n) a1 a2 a3 a5)
 else
 (ckO 1 h a1 11
 (ckA 1 h (a1 + 1) 0
 (chk a5 (alen h (a1 + 1))
 (ckO 1 h a1 11
 (ckA 1 h (a1 + 2) 0
 (chk a5 (alen h (a1 + 2))
 (bnr (f_X9_moved h (aI h (a1 + 1) (a5).toNatClampNeg) (aI h (a1 + 2) (a5).toNatClampNeg) a3) fun r34 =>
 (f_X9_done_64 h (f_X9_done_8 h n) a1 a2 r34 a5))))))))))))))))))
 else
 (some a3)))
def f_X9_done (h : hp) (o : Nat) (p0 : Int32) (p1 : Nat) : Option Int32 := (f_X9_done_8 h 2000 o p1 p0 (0 : Int32) (0 : Int32))
set_option maxRecDepth 100000 in
set_option maxHeartbeats 4000000 in
theorem k_X9_done_64 {ω : XO} (hω : ω.2.2.2.1 = 1) {κ : XK} (X : XC ω rm_X9_done 6 κ cX9_done "SignalBlind$Ward") {L : List Nat} {q : Nat → Nat} {h : hp} {r : Int32} (R : XRet ω rm_X9_done κ (some .int) L q h (some (.int r))) (k8 : Nat → Nat → Int32 → Int32 → Int32 → Option Int32) (hk8 : ∀ (a1 : Nat) (a2 : Nat) (a3 : Int32) (a4 : Int32) (a5 : Int32), k8 a1 a2 a3 a4 a5 = some r → XG ω rm_X9_done 6 κ L q h 0 0 8 [(0, .ref (q a1)), (2, .ref (q a2)), (3, .int a3), (4, .int a4), (5, .int a5)] []) : ∀ (a12 : Nat) (a13 : Nat) (a14 : Int32) (a15 : Int32), f_X9_done_64 h k8 a12 a13 a14 a15 = some r → XG ω rm_X9_done 6 κ L q h 0 0 64 [(0, .ref (q a12)), (2, .ref (q a13)), (3, .int a14), (5, .int a15)] [] := by
  intro a12 a13 a14 a15 hf
  unfold f_X9_done_64 at hf
  refine x_aload_n X dX9_done_64 0 rfl rfl ?_
  obtain ⟨b16, hf⟩ := ckO_some hf
  refine x_getsj X (i := a12) 3 fl_X9_18_10 (sd_of hω b16.1) b16.2 rfl (j := (a12 + 3)) rfl dX9_done_65 ?_
  refine x_iload X dX9_done_68 3 rfl ?_
  obtain ⟨b17, hf⟩ := ckA_some hf
  obtain ⟨z18, hf⟩ := chk_some hf
  refine x_iald X (i := (a12 + 3)) (n := (alen h (a12 + 3))) (sd_of hω b17.1) b17.2 z18 dX9_done_70 ?_
  obtain ⟨v19, ev19, hf⟩ := nm_some hf
  refine x_nmI ev19 ?_
  refine x_istore X [(4, .int v19), (0, .ref (q a12)), (2, .ref (q a13)), (3, .int a14), (5, .int a15)] dX9_done_71 (Nat.le_of_ble_eq_true rfl) rfl ?_
  obtain ⟨v20, ev20, hf⟩ := nm_some hf
  refine x_iincN X (v := 1) ev20 [(5, .int v20), (4, .int v19), (0, .ref (q a12)), (2, .ref (q a13)), (3, .int a14)] dX9_done_73 4 rfl (by decide) (Nat.le_of_ble_eq_true rfl) rfl ?_
  refine x_goto X 8 dX9_done_76 (by decide) ?_
  refine x_lv [2, 3, 4, 1, 0] rfl ?_
  exact hk8 _ _ _ _ _ hf
set_option maxRecDepth 100000 in
set_option maxHeartbeats 4000000 in
theorem k_X9_done_8 {ω : XO} (hω : ω.2.2.2.1 = 1) {κ : XK} (X : XC ω rm_X9_done 6 κ cX9_done "SignalBlind$Ward") {L : List Nat} {q : Nat → Nat} {h : hp} {r : Int32} (R : XRet ω rm_X9_done κ (some .int) L q h (some (.int r))) : ∀ (n : Nat) (a1 : Nat) (a2 : Nat) (a3 : Int32) (a4 : Int32) (a5 : Int32), f_X9_done_8 h n a1 a2 a3 a4 a5 = some r → XG ω rm_X9_done 6 κ L q h 0 0 8 [(0, .ref (q a1)), (2, .ref (q a2)), (3, .int a3), (4, .int a4), (5, .int a5)] [] := by
  intro n
  induction n with
  | zero =>
    intro a1 a2 a3 a4 a5 hf
    have hf : (none : Option Int32) = some r := hf
    cases hf
  | succ n ih =>
    intro a1 a2 a3 a4 a5 hf
    rw [f_X9_done_8] at hf
    refine x_iload X dX9_done_8 4 rfl ?_
    refine x_aload_n X dX9_done_10 0 rfl rfl ?_
    obtain ⟨b6, hf⟩ := ckO_some hf
    refine x_geti X (i := a1) fl_X9_21_10 (sd_of hω b6.1) b6.2 rfl dX9_done_11 ?_
    refine x_icmp_ge X 79 dX9_done_14 (by decide) (fun c7 => ?_) (fun c7 => ?_)
    · replace hf := (if_pos c7).symm.trans hf
      refine x_aload_n X dX9_done_17 0 rfl rfl ?_
      obtain ⟨b8, hf⟩ := ckO_some hf
      refine x_getsj X (i := a1) 1 fl_X9_11_10 (sd_of hω b8.1) b8.2 rfl (j := (a1 + 1)) rfl dX9_done_18 ?_
      refine x_iload X dX9_done_21 4 rfl ?_
      obtain ⟨b9, hf⟩ := ckA_some hf
      obtain ⟨z10, hf⟩ := chk_some hf
      refine x_iald X (i := (a1 + 1)) (n := (alen h (a1 + 1))) (sd_of hω b9.1) b9.2 z10 dX9_done_23 ?_
      refine x_iconst X (v := 3) dX9_done_24 (by decide) ?_
      refine x_icmp_eq X 64 dX9_done_25 (by decide) (fun c11 => ?_) (fun c11 => ?_)
      · replace hf := (if_pos c11).symm.trans hf
        refine x_lv [0, 1, 2, 4] rfl ?_
        exact k_X9_done_64 hω X R _ ih _ _ _ _ hf
      · replace hf := (if_neg c11).symm.trans hf
        refine x_aload_n X dX9_done_28 0 rfl rfl ?_
        refine x_iload X dX9_done_29 3 rfl ?_
        refine x_aload_n X dX9_done_31 0 rfl rfl ?_
        obtain ⟨b21, hf⟩ := ckO_some hf
        refine x_getsj X (i := a1) 3 fl_X9_18_10 (sd_of hω b21.1) b21.2 rfl (j := (a1 + 3)) rfl dX9_done_32 ?_
        refine x_iload X dX9_done_35 4 rfl ?_
        obtain ⟨b22, hf⟩ := ckA_some hf
        obtain ⟨z23, hf⟩ := chk_some hf
        refine x_iald X (i := (a1 + 3)) (n := (alen h (a1 + 3))) (sd_of hω b22.1) b22.2 z23 dX9_done_37 ?_
        refine x_aload_n X dX9_done_38 1 rfl rfl ?_
        obtain ⟨b24, hf⟩ := ckO_some hf
        obtain ⟨r25, g26, hf⟩ := bnr_some hf
        refine c_X9_98 X hω g26 (sd_of hω b24.1) b24.2 (hR := ⟨Nat.le_of_ble_eq_true rfl, Nat.le_of_ble_eq_true rfl⟩) ⟨Nat.zero_le _, Nat.zero_le _⟩ (Nat.le_of_ble_eq_true rfl) dX9_done_39 ?_
        refine x_if_eq X 64 dX9_done_42 (by decide) (fun c27 => ?_) (fun c27 => ?_)
        · replace hf := (if_pos c27).symm.trans hf
          refine x_lv [0, 1, 2, 4] rfl ?_
          exact k_X9_done_64 hω X R _ ih _ _ _ _ hf
        · replace hf := (if_neg c27).symm.trans hf
          refine x_aload_n X dX9_done_45 0 rfl rfl ?_
          obtain ⟨b28, hf⟩ := ckO_some hf
          refine x_getsj X (i := a1) 1 fl_X9_11_10 (sd_of hω b28.1) b28.2 rfl (j := (a1 + 1)) rfl dX9_done_46 ?_
          refine x_iload X dX9_done_49 4 rfl ?_
          obtain ⟨b29, hf⟩ := ckA_some hf
          obtain ⟨z30, hf⟩ := chk_some hf
          refine x_iald X (i := (a1 + 1)) (n := (alen h (a1 + 1))) (sd_of hω b29.1) b29.2 z30 dX9_done_51 ?_
          refine x_aload_n X dX9_done_52 0 rfl rfl ?_
          obtain ⟨b31, hf⟩ := ckO_some hf
          refine x_getsj X (i := a1) 2 fl_X9_15_10 (sd_of hω b31.1) b31.2 rfl (j := (a1 + 2)) rfl dX9_done_53 ?_
          refine x_iload X dX9_done_56 4 rfl ?_
          obtain ⟨b32, hf⟩ := ckA_some hf
          obtain ⟨z33, hf⟩ := chk_some hf
          refine x_iald X (i := (a1 + 2)) (n := (alen h (a1 + 2))) (sd_of hω b32.1) b32.2 z33 dX9_done_58 ?_
          refine x_iload_n X dX9_done_59 2 rfl rfl ?_
          obtain ⟨r34, g35, hf⟩ := bnr_some hf
          refine c_X9_102 X hω g35 (hR := ⟨Nat.le_of_ble_eq_true rfl, Nat.le_of_ble_eq_true rfl⟩) ⟨Nat.zero_le _, Nat.zero_le _⟩ (Nat.le_of_ble_eq_true rfl) dX9_done_60 ?_
          refine x_istore_n X [(3, .int r34), (0, .ref (q a1)), (2, .ref (q a2)), (4, .int a4), (5, .int a5)] dX9_done_63 rfl (Nat.le_of_ble_eq_true rfl) rfl ?_
          refine x_lv [1, 2, 0, 4] rfl ?_
          exact k_X9_done_64 hω X R _ ih _ _ _ _ hf
    · replace hf := (if_neg c7).symm.trans hf
      refine x_iload_n X dX9_done_79 2 rfl rfl ?_
      exact x_retRI X R hf dX9_done_80
set_option maxRecDepth 100000 in
set_option maxHeartbeats 4000000 in
theorem k_X9_done {ω : XO} (hω : ω.2.2.2.1 = 1) {L : List Nat} {q : Nat → Nat} {h : hp} {o : Nat} {p0 : Int32} {p1 : Nat} {r : Int32} (hf : f_X9_done h o p0 p1 = some r) : XM ω yX9_done cX9_done 6 (some .int) rm_X9_done L q h [.ref (q o), .int p0, .ref (q p1)] (some (.int r)) h := by
  refine XM_intro [(0, .ref (q o)), (1, .int p0), (2, .ref (q p1))] "SignalBlind$Ward" (by decide) rfl rfl (Nat.le_of_ble_eq_true rfl) (fun κ X R => ?_)
  unfold f_X9_done at hf
  refine x_iload_n X dX9_done_0 1 rfl rfl ?_
  refine x_istore_n X [(3, .int p0), (0, .ref (q o)), (1, .int p0), (2, .ref (q p1))] dX9_done_1 rfl (Nat.le_of_ble_eq_true rfl) rfl ?_
  refine x_iconst X (v := 0) dX9_done_2 (by decide) ?_
  refine x_istore X [(4, .int (0 : Int32)), (3, .int p0), (0, .ref (q o)), (1, .int p0), (2, .ref (q p1))] dX9_done_3 (Nat.le_of_ble_eq_true rfl) rfl ?_
  refine x_iconst X (v := 0) dX9_done_5 (by decide) ?_
  refine x_istore X [(5, .int (0 : Int32)), (4, .int (0 : Int32)), (3, .int p0), (0, .ref (q o)), (1, .int p0), (2, .ref (q p1))] dX9_done_6 (Nat.le_of_ble_eq_true rfl) rfl ?_
  refine x_lv [3, 5, 2, 1, 0] rfl ?_
  exact k_X9_done_8 hω X R _ _ _ _ _ _ hf
theorem mt_X9_done : MT yX9_done cX9_done 6 (some .int) "SignalBlind$Ward" 2 := ⟨(mT_2 141 rfl rfl), (mT_2 142 rfl rfl), (mT_1 4 rfl rfl), (mT_2 143 rfl rfl), by decide⟩
theorem c_X11_273 {ω : XO} {rm : Room} {nL : Nat} {κ : XK} {cc : ByteArray} (X : XC ω rm nL κ cc "SignalBlind") (hω : ω.2.2.2.1 = 1) {L : List Nat} {q : Nat → Nat} {h : hp} {cells slots pc : Nat} {lv : List (Nat × Value)} {rest : List Value} {o : Nat} {p0 : Int32} {p1 : Nat} {r : Int32} (hf : f_X9_done h o p0 p1 = some r) (hs : sd ω.2.2.2.1 o = true) (hk : kdOf h o = 10 + 1) (hR : rm_X9_done.frames + 1 ≤ rm.frames ∧ 8 + (6 + 11) + rm_X9_done.locals ≤ rm.locals) (hcs : cells ≤ rm.cells ∧ slots ≤ rm.slots) (hroom : (rest.map fun v => v.category).sum ≤ 8) (hd : decode cc pc = .ok (.invokevirtual 273, 3)) (kk : XG ω rm nL κ L q h cells slots (pc + 3) lv (.int r :: rest)) : XG ω rm nL κ L q h cells slots pc lv (.ref (q p1) :: .int p0 :: .ref (q o) :: rest) := x_callV X [.int p0, .ref (q p1)] rest (k_X9_done hω hf) mt_X9_done (mT_2 140 rfl rfl) hR ⟨rfl, rfl⟩ hcs hs hk (by decide) rfl rfl hroom hd kk

abbrev rm_X10_showing : Room := { frames := 1, cells := 0, slots := 0, locals := 24 }
def f_X10_showing_19 (h : hp) (a6 : Int32) : Option Int32 := (some a6)
def f_X10_showing (h : hp) (o : Nat) (p0 : Int32) (p1 : Int32) (p2 : Int32) (p3 : Int32) : Option Int32 := (nz (2 : Int32)
 (if (p2 - p2 / (2 : Int32) * (2 : Int32)) = 0 then
 (ckS h o
 (bnr (f_X0_showing h o p0 p1 p2 p3) fun r4 =>
 (f_X10_showing_19 h r4)))
 else
 (f_X10_showing_19 h p0)))
set_option maxRecDepth 100000 in
set_option maxHeartbeats 4000000 in
theorem k_X10_showing_19 {ω : XO} (hω : ω.2.2.2.1 = 1) {κ : XK} (X : XC ω rm_X10_showing 5 κ cX10_showing "SignalBlind$Wind") {L : List Nat} {q : Nat → Nat} {h : hp} {r : Int32} (R : XRet ω rm_X10_showing κ (some .int) L q h (some (.int r))) : ∀ (a6 : Int32), f_X10_showing_19 h a6 = some r → XG ω rm_X10_showing 5 κ L q h 0 0 19 [] [.int a6] := by
  intro a6 hf
  unfold f_X10_showing_19 at hf
  exact x_retRI X R hf dX10_showing_19
set_option maxRecDepth 100000 in
set_option maxHeartbeats 4000000 in
theorem k_X10_showing {ω : XO} (hω : ω.2.2.2.1 = 1) {L : List Nat} {q : Nat → Nat} {h : hp} {o : Nat} {p0 : Int32} {p1 : Int32} {p2 : Int32} {p3 : Int32} {r : Int32} (hf : f_X10_showing h o p0 p1 p2 p3 = some r) : XM ω yX10_showing cX10_showing 5 (some .int) rm_X10_showing L q h [.ref (q o), .int p0, .int p1, .int p2, .int p3] (some (.int r)) h := by
  refine XM_intro [(0, .ref (q o)), (1, .int p0), (2, .int p1), (3, .int p2), (4, .int p3)] "SignalBlind$Wind" (by decide) rfl rfl (Nat.le_of_ble_eq_true rfl) (fun κ X R => ?_)
  unfold f_X10_showing at hf
  refine x_iload_n X dX10_showing_0 3 rfl rfl ?_
  refine x_iconst X (v := 2) dX10_showing_1 (by decide) ?_
  obtain ⟨z1, hf⟩ := nz_some hf
  refine x_irem X dX10_showing_2 z1 ?_
  refine x_if_ne X 18 dX10_showing_3 (by decide) (fun c2 => ?_) (fun c2 => ?_)
  · replace hf := (if_pos c2).symm.trans hf
    refine x_aload_n X dX10_showing_6 0 rfl rfl ?_
    refine x_iload_n X dX10_showing_7 1 rfl rfl ?_
    refine x_iload_n X dX10_showing_8 2 rfl rfl ?_
    refine x_iload_n X dX10_showing_9 3 rfl rfl ?_
    refine x_iload X dX10_showing_10 4 rfl ?_
    obtain ⟨b3, hf⟩ := ckS_some hf
    obtain ⟨r4, g5, hf⟩ := bnr_some hf
    refine c_X10_7 X hω g5 b3 (hR := ⟨Nat.le_of_ble_eq_true rfl, Nat.le_of_ble_eq_true rfl⟩) ⟨Nat.zero_le _, Nat.zero_le _⟩ (Nat.le_of_ble_eq_true rfl) dX10_showing_12 ?_
    refine x_goto X 19 dX10_showing_15 (by decide) ?_
    refine x_lv [] rfl ?_
    exact k_X10_showing_19 hω X R _ hf
  · replace hf := (if_neg c2).symm.trans hf
    refine x_iload_n X dX10_showing_18 1 rfl rfl ?_
    refine x_lv [] rfl ?_
    exact k_X10_showing_19 hω X R _ hf

abbrev rm_X11_isSign : Room := { frames := 0, cells := 0, slots := 0, locals := 0 }
def f_X11_isSign_16 (h : hp) (a2 : Int32) : Option Int32 := (ckZ a2
 (some a2))
def f_X11_isSign_15 (h : hp) : Option Int32 := (f_X11_isSign_16 h (0 : Int32))
def f_X11_isSign (h : hp) (p0 : Int32) : Option Int32 := (if p0 < 0 then
 (f_X11_isSign_15 h)
 else
 (if p0 < (1024 : Int32) then
 (f_X11_isSign_16 h (1 : Int32))
 else
 (f_X11_isSign_15 h)))
set_option maxRecDepth 100000 in
set_option maxHeartbeats 4000000 in
theorem k_X11_isSign_16 {ω : XO} (hω : ω.2.2.2.1 = 1) {κ : XK} (X : XC ω rm_X11_isSign 1 κ cX11_isSign "SignalBlind") {L : List Nat} {q : Nat → Nat} {h : hp} {r : Int32} (R : XRet ω rm_X11_isSign κ (some .boolean) L q h (some (.int r))) : ∀ (a2 : Int32), f_X11_isSign_16 h a2 = some r → XG ω rm_X11_isSign 1 κ L q h 0 0 16 [] [.int a2] := by
  intro a2 hf
  unfold f_X11_isSign_16 at hf
  obtain ⟨z3, hf⟩ := ckZ_some hf
  exact x_retRZ X R z3 hf dX11_isSign_16
set_option maxRecDepth 100000 in
set_option maxHeartbeats 4000000 in
theorem k_X11_isSign_15 {ω : XO} (hω : ω.2.2.2.1 = 1) {κ : XK} (X : XC ω rm_X11_isSign 1 κ cX11_isSign "SignalBlind") {L : List Nat} {q : Nat → Nat} {h : hp} {r : Int32} (R : XRet ω rm_X11_isSign κ (some .boolean) L q h (some (.int r))) : f_X11_isSign_15 h = some r → XG ω rm_X11_isSign 1 κ L q h 0 0 15 [] [] := by
  intro  hf
  unfold f_X11_isSign_15 at hf
  refine x_iconst X (v := 0) dX11_isSign_15 (by decide) ?_
  refine x_lv [] rfl ?_
  exact k_X11_isSign_16 hω X R _ hf
set_option maxRecDepth 100000 in
set_option maxHeartbeats 4000000 in
theorem k_X11_isSign {ω : XO} (hω : ω.2.2.2.1 = 1) {L : List Nat} {q : Nat → Nat} {h : hp} {p0 : Int32} {r : Int32} (hf : f_X11_isSign h p0 = some r) : XM ω yX11_isSign cX11_isSign 1 (some .boolean) rm_X11_isSign L q h [.int p0] (some (.int r)) h := by
  refine XM_intro [(0, .int p0)] "SignalBlind" (by decide) rfl rfl (Nat.le_of_ble_eq_true rfl) (fun κ X R => ?_)
  unfold f_X11_isSign at hf
  refine x_iload_n X dX11_isSign_0 0 rfl rfl ?_
  refine x_if_lt X 15 dX11_isSign_1 (by decide) (fun c1 => ?_) (fun c1 => ?_)
  · replace hf := (if_pos c1).symm.trans hf
    refine x_lv [] rfl ?_
    exact k_X11_isSign_15 hω X R  hf
  · replace hf := (if_neg c1).symm.trans hf
    refine x_iload_n X dX11_isSign_4 0 rfl rfl ?_
    refine x_sipush X (v := 1024) dX11_isSign_5 (by decide) ?_
    refine x_icmp_ge X 15 dX11_isSign_8 (by decide) (fun c4 => ?_) (fun c4 => ?_)
    · replace hf := (if_pos c4).symm.trans hf
      refine x_iconst X (v := 1) dX11_isSign_11 (by decide) ?_
      refine x_goto X 16 dX11_isSign_12 (by decide) ?_
      refine x_lv [] rfl ?_
      exact k_X11_isSign_16 hω X R _ hf
    · replace hf := (if_neg c4).symm.trans hf
      refine x_lv [] rfl ?_
      exact k_X11_isSign_15 hω X R  hf
theorem mt_X11_isSign : MS yX11_isSign cX11_isSign 1 (some .boolean) 1 := ⟨(mT_1 232 rfl rfl), (mT_1 1 rfl rfl), (mT_1 233 rfl rfl), by decide⟩
theorem c_X11_73 {ω : XO} {rm : Room} {nL : Nat} {κ : XK} {cc : ByteArray} (X : XC ω rm nL κ cc "SignalBlind") (hω : ω.2.2.2.1 = 1) {L : List Nat} {q : Nat → Nat} {h : hp} {cells slots pc : Nat} {lv : List (Nat × Value)} {rest : List Value} {p0 : Int32} {r : Int32} (hf : f_X11_isSign h p0 = some r) (hR : rm_X11_isSign.frames + 1 ≤ rm.frames ∧ 8 + (1 + 11) + rm_X11_isSign.locals ≤ rm.locals) (hcs : cells ≤ rm.cells ∧ slots ≤ rm.slots) (hroom : (rest.map fun v => v.category).sum ≤ 8) (hd : decode cc pc = .ok (.invokestatic 73, 3)) (kk : XG ω rm nL κ L q h cells slots (pc + 3) lv (.int r :: rest)) : XG ω rm nL κ L q h cells slots pc lv (.int p0 :: rest) := x_callS X [.int p0] rest (k_X11_isSign hω hf) mt_X11_isSign (mT_1 231 rfl rfl) hR ⟨rfl, rfl⟩ hcs rfl hroom hd kk

abbrev rm_X11_word : Room := { frames := 1, cells := 0, slots := 0, locals := 21 }
def f_X11_word (h : hp) (p0 : Int32) : Option (hp × Int32) := (bnr (f_X11_isSign h p0) fun r1 =>
 (if r1 = 0 then
 (some (h, (-2 : Int32)))
 else
 (bnr (f_X2_isFull h 2) fun r4 =>
 (if r4 = 0 then
 (bnd (f_X2_add h 2 p0) fun h7 r8 =>
 (some (h7, (r8 - (1 : Int32)))))
 else
 (some (h, (-4 : Int32)))))))
set_option maxRecDepth 100000 in
set_option maxHeartbeats 4000000 in
theorem k_X11_word {ω : XO} (hω : ω.2.2.2.1 = 1) {L : List Nat} {q : Nat → Nat} {h h' : hp} {p0 : Int32} {r : Int32} (hf : f_X11_word h p0 = some (h', r)) : XM ω yX11_word cX11_word 2 (some .int) rm_X11_word L q h [.ref (q 0), .int p0] (some (.int r)) h' := by
  refine XM_intro [(0, .ref (q 0)), (1, .int p0)] "SignalBlind" (by decide) rfl rfl (Nat.le_of_ble_eq_true rfl) (fun κ X R => ?_)
  unfold f_X11_word at hf
  refine x_iload_n X dX11_word_0 1 rfl rfl ?_
  obtain ⟨r1, g2, hf⟩ := bnr_some hf
  refine c_X11_73 X hω g2 (hR := ⟨Nat.le_of_ble_eq_true rfl, Nat.le_of_ble_eq_true rfl⟩) ⟨Nat.zero_le _, Nat.zero_le _⟩ (Nat.le_of_ble_eq_true rfl) dX11_word_1 ?_
  refine x_if_ne X 10 dX11_word_4 (by decide) (fun c3 => ?_) (fun c3 => ?_)
  · replace hf := (if_pos c3).symm.trans hf
    refine x_bipush X (v := -2) dX11_word_7 (by decide) ?_
    exact x_retSI X R hf dX11_word_9
  · replace hf := (if_neg c3).symm.trans hf
    refine x_aload_n X dX11_word_10 0 rfl rfl ?_
    refine x_getsj X (i := 0) 1 fl_X11_14_12 (sdX_0 hω) (ks_0 _) rfl (j := 1) rfl dX11_word_11 ?_
    refine x_getsj X (i := 1) 1 fl_X11_77_4 (sdX_1 hω) (ks_1 _) rfl (j := 2) rfl dX11_word_14 ?_
    obtain ⟨r4, g5, hf⟩ := bnr_some hf
    refine c_X11_80 X hω g5 (sdX_2 hω) (ks_2 _) (hR := ⟨Nat.le_of_ble_eq_true rfl, Nat.le_of_ble_eq_true rfl⟩) ⟨Nat.zero_le _, Nat.zero_le _⟩ (Nat.le_of_ble_eq_true rfl) dX11_word_17 ?_
    refine x_if_eq X 26 dX11_word_20 (by decide) (fun c6 => ?_) (fun c6 => ?_)
    · replace hf := (if_pos c6).symm.trans hf
      refine x_aload_n X dX11_word_26 0 rfl rfl ?_
      refine x_getsj X (i := 0) 1 fl_X11_14_12 (sdX_0 hω) (ks_0 _) rfl (j := 1) rfl dX11_word_27 ?_
      refine x_getsj X (i := 1) 1 fl_X11_77_4 (sdX_1 hω) (ks_1 _) rfl (j := 2) rfl dX11_word_30 ?_
      refine x_iload_n X dX11_word_33 1 rfl rfl ?_
      obtain ⟨h7, r8, g9, hf⟩ := bnd_some hf
      refine c_X11_84 X hω g9 (sdX_2 hω) (ks_2 _) (hR := ⟨Nat.le_of_ble_eq_true rfl, Nat.le_of_ble_eq_true rfl⟩) ⟨Nat.zero_le _, Nat.zero_le _⟩ (Nat.le_of_ble_eq_true rfl) dX11_word_34 ?_
      refine x_iconst X (v := 1) dX11_word_37 (by decide) ?_
      refine x_isub X dX11_word_38 ?_
      exact x_retSI X R hf dX11_word_39
    · replace hf := (if_neg c6).symm.trans hf
      refine x_bipush X (v := -4) dX11_word_23 (by decide) ?_
      exact x_retSI X R hf dX11_word_25
theorem mt_X11_word : MT yX11_word cX11_word 2 (some .int) "SignalBlind" 1 := ⟨(mT_1 228 rfl rfl), (mT_1 229 rfl rfl), (mT_1 1 rfl rfl), (mT_1 230 rfl rfl), by decide⟩

abbrev rm_X11_isWord : Room := { frames := 0, cells := 0, slots := 0, locals := 0 }
def f_X11_isWord_23 (h : hp) (a2 : Int32) : Option Int32 := (ckZ a2
 (some a2))
def f_X11_isWord_22 (h : hp) : Option Int32 := (f_X11_isWord_23 h (0 : Int32))
def f_X11_isWord (h : hp) (p0 : Int32) : Option Int32 := (if p0 < 0 then
 (f_X11_isWord_22 h)
 else
 (if p0 < (hI h 2 1) then
 (f_X11_isWord_23 h (1 : Int32))
 else
 (f_X11_isWord_22 h)))
set_option maxRecDepth 100000 in
set_option maxHeartbeats 4000000 in
theorem k_X11_isWord_23 {ω : XO} (hω : ω.2.2.2.1 = 1) {κ : XK} (X : XC ω rm_X11_isWord 2 κ cX11_isWord "SignalBlind") {L : List Nat} {q : Nat → Nat} {h : hp} {r : Int32} (R : XRet ω rm_X11_isWord κ (some .boolean) L q h (some (.int r))) : ∀ (a2 : Int32), f_X11_isWord_23 h a2 = some r → XG ω rm_X11_isWord 2 κ L q h 0 0 23 [] [.int a2] := by
  intro a2 hf
  unfold f_X11_isWord_23 at hf
  obtain ⟨z3, hf⟩ := ckZ_some hf
  exact x_retRZ X R z3 hf dX11_isWord_23
set_option maxRecDepth 100000 in
set_option maxHeartbeats 4000000 in
theorem k_X11_isWord_22 {ω : XO} (hω : ω.2.2.2.1 = 1) {κ : XK} (X : XC ω rm_X11_isWord 2 κ cX11_isWord "SignalBlind") {L : List Nat} {q : Nat → Nat} {h : hp} {r : Int32} (R : XRet ω rm_X11_isWord κ (some .boolean) L q h (some (.int r))) : f_X11_isWord_22 h = some r → XG ω rm_X11_isWord 2 κ L q h 0 0 22 [] [] := by
  intro  hf
  unfold f_X11_isWord_22 at hf
  refine x_iconst X (v := 0) dX11_isWord_22 (by decide) ?_
  refine x_lv [] rfl ?_
  exact k_X11_isWord_23 hω X R _ hf
set_option maxRecDepth 100000 in
set_option maxHeartbeats 4000000 in
theorem k_X11_isWord {ω : XO} (hω : ω.2.2.2.1 = 1) {L : List Nat} {q : Nat → Nat} {h : hp} {p0 : Int32} {r : Int32} (hf : f_X11_isWord h p0 = some r) : XM ω yX11_isWord cX11_isWord 2 (some .boolean) rm_X11_isWord L q h [.ref (q 0), .int p0] (some (.int r)) h := by
  refine XM_intro [(0, .ref (q 0)), (1, .int p0)] "SignalBlind" (by decide) rfl rfl (Nat.le_of_ble_eq_true rfl) (fun κ X R => ?_)
  unfold f_X11_isWord at hf
  refine x_iload_n X dX11_isWord_0 1 rfl rfl ?_
  refine x_if_lt X 22 dX11_isWord_1 (by decide) (fun c1 => ?_) (fun c1 => ?_)
  · replace hf := (if_pos c1).symm.trans hf
    refine x_lv [] rfl ?_
    exact k_X11_isWord_22 hω X R  hf
  · replace hf := (if_neg c1).symm.trans hf
    refine x_iload_n X dX11_isWord_4 1 rfl rfl ?_
    refine x_aload_n X dX11_isWord_5 0 rfl rfl ?_
    refine x_getsj X (i := 0) 1 fl_X11_14_12 (sdX_0 hω) (ks_0 _) rfl (j := 1) rfl dX11_isWord_6 ?_
    refine x_getsj X (i := 1) 1 fl_X11_77_4 (sdX_1 hω) (ks_1 _) rfl (j := 2) rfl dX11_isWord_9 ?_
    refine x_geti X (i := 2) fl_X11_179_3 (sdX_2 hω) (ks_2 _) rfl dX11_isWord_12 ?_
    refine x_icmp_ge X 22 dX11_isWord_15 (by decide) (fun c4 => ?_) (fun c4 => ?_)
    · replace hf := (if_pos c4).symm.trans hf
      refine x_iconst X (v := 1) dX11_isWord_18 (by decide) ?_
      refine x_goto X 23 dX11_isWord_19 (by decide) ?_
      refine x_lv [] rfl ?_
      exact k_X11_isWord_23 hω X R _ hf
    · replace hf := (if_neg c4).symm.trans hf
      refine x_lv [] rfl ?_
      exact k_X11_isWord_22 hω X R  hf
theorem mt_X11_isWord : MT yX11_isWord cX11_isWord 2 (some .boolean) "SignalBlind" 1 := ⟨(mT_2 8 rfl rfl), (mTp (q := (yX11_isWord, 12)) (by decide +kernel) rfl), (mT_1 1 rfl rfl), (mT_2 9 rfl rfl), by decide⟩
theorem c_X11_88 {ω : XO} {rm : Room} {nL : Nat} {κ : XK} {cc : ByteArray} (X : XC ω rm nL κ cc "SignalBlind") (hω : ω.2.2.2.1 = 1) {L : List Nat} {q : Nat → Nat} {h : hp} {cells slots pc : Nat} {lv : List (Nat × Value)} {rest : List Value} {p0 : Int32} {r : Int32} (hf : f_X11_isWord h p0 = some r) (hR : rm_X11_isWord.frames + 1 ≤ rm.frames ∧ 8 + (2 + 11) + rm_X11_isWord.locals ≤ rm.locals) (hcs : cells ≤ rm.cells ∧ slots ≤ rm.slots) (hroom : (rest.map fun v => v.category).sum ≤ 8) (hd : decode cc pc = .ok (.invokevirtual 88, 3)) (kk : XG ω rm nL κ L q h cells slots (pc + 3) lv (.int r :: rest)) : XG ω rm nL κ L q h cells slots pc lv (.int p0 :: .ref (q 0) :: rest) := x_callV X [.int p0] rest (k_X11_isWord hω hf) mt_X11_isWord (mT_2 6 rfl rfl) hR ⟨rfl, rfl⟩ hcs (sdX_0 hω) (ks_0 _) (by decide) rfl rfl hroom hd kk

abbrev rm_X11_alter : Room := { frames := 1, cells := 0, slots := 0, locals := 22 }
def f_X11_alter (h : hp) (p0 : Int32) (p1 : Int32) : Option (hp × Int32) := (bnr (f_X11_isWord h p0) fun r1 =>
 (if r1 = 0 then
 (some (h, (-1 : Int32)))
 else
 (bnr (f_X11_isSign h p1) fun r4 =>
 (if r4 = 0 then
 (some (h, (-2 : Int32)))
 else
 (bnr (f_X2_get h 2 p0) fun r7 =>
 (bnd (f_X2_set h 2 p0 p1) fun h9 _ =>
 (some (h9, r7))))))))
set_option maxRecDepth 100000 in
set_option maxHeartbeats 4000000 in
theorem k_X11_alter {ω : XO} (hω : ω.2.2.2.1 = 1) {L : List Nat} {q : Nat → Nat} {h h' : hp} {p0 : Int32} {p1 : Int32} {r : Int32} (hf : f_X11_alter h p0 p1 = some (h', r)) : XM ω yX11_alter cX11_alter 4 (some .int) rm_X11_alter L q h [.ref (q 0), .int p0, .int p1] (some (.int r)) h' := by
  refine XM_intro [(0, .ref (q 0)), (1, .int p0), (2, .int p1)] "SignalBlind" (by decide) rfl rfl (Nat.le_of_ble_eq_true rfl) (fun κ X R => ?_)
  unfold f_X11_alter at hf
  refine x_aload_n X dX11_alter_0 0 rfl rfl ?_
  refine x_iload_n X dX11_alter_1 1 rfl rfl ?_
  obtain ⟨r1, g2, hf⟩ := bnr_some hf
  refine c_X11_88 X hω g2 (hR := ⟨Nat.le_of_ble_eq_true rfl, Nat.le_of_ble_eq_true rfl⟩) ⟨Nat.zero_le _, Nat.zero_le _⟩ (Nat.le_of_ble_eq_true rfl) dX11_alter_2 ?_
  refine x_if_ne X 10 dX11_alter_5 (by decide) (fun c3 => ?_) (fun c3 => ?_)
  · replace hf := (if_pos c3).symm.trans hf
    refine x_iconst X (v := -1) dX11_alter_8 (by decide) ?_
    exact x_retSI X R hf dX11_alter_9
  · replace hf := (if_neg c3).symm.trans hf
    refine x_iload_n X dX11_alter_10 2 rfl rfl ?_
    obtain ⟨r4, g5, hf⟩ := bnr_some hf
    refine c_X11_73 X hω g5 (hR := ⟨Nat.le_of_ble_eq_true rfl, Nat.le_of_ble_eq_true rfl⟩) ⟨Nat.zero_le _, Nat.zero_le _⟩ (Nat.le_of_ble_eq_true rfl) dX11_alter_11 ?_
    refine x_if_ne X 20 dX11_alter_14 (by decide) (fun c6 => ?_) (fun c6 => ?_)
    · replace hf := (if_pos c6).symm.trans hf
      refine x_bipush X (v := -2) dX11_alter_17 (by decide) ?_
      exact x_retSI X R hf dX11_alter_19
    · replace hf := (if_neg c6).symm.trans hf
      refine x_aload_n X dX11_alter_20 0 rfl rfl ?_
      refine x_getsj X (i := 0) 1 fl_X11_14_12 (sdX_0 hω) (ks_0 _) rfl (j := 1) rfl dX11_alter_21 ?_
      refine x_getsj X (i := 1) 1 fl_X11_77_4 (sdX_1 hω) (ks_1 _) rfl (j := 2) rfl dX11_alter_24 ?_
      refine x_iload_n X dX11_alter_27 1 rfl rfl ?_
      obtain ⟨r7, g8, hf⟩ := bnr_some hf
      refine c_X11_91 X hω g8 (sdX_2 hω) (ks_2 _) (hR := ⟨Nat.le_of_ble_eq_true rfl, Nat.le_of_ble_eq_true rfl⟩) ⟨Nat.zero_le _, Nat.zero_le _⟩ (Nat.le_of_ble_eq_true rfl) dX11_alter_28 ?_
      refine x_istore_n X [(3, .int r7), (0, .ref (q 0)), (1, .int p0), (2, .int p1)] dX11_alter_31 rfl (Nat.le_of_ble_eq_true rfl) rfl ?_
      refine x_aload_n X dX11_alter_32 1 rfl rfl ?_
      refine x_getsj X (i := 0) 1 fl_X11_14_12 (sdX_0 hω) (ks_0 _) rfl (j := 1) rfl dX11_alter_33 ?_
      refine x_getsj X (i := 1) 1 fl_X11_77_4 (sdX_1 hω) (ks_1 _) rfl (j := 2) rfl dX11_alter_36 ?_
      refine x_iload_n X dX11_alter_39 2 rfl rfl ?_
      refine x_iload_n X dX11_alter_40 3 rfl rfl ?_
      obtain ⟨h9, uh9, g10, hf⟩ := bnd_some hf
      refine c_X11_94 X hω g10 (sdX_2 hω) (ks_2 _) (hR := ⟨Nat.le_of_ble_eq_true rfl, Nat.le_of_ble_eq_true rfl⟩) ⟨Nat.zero_le _, Nat.zero_le _⟩ (Nat.le_of_ble_eq_true rfl) dX11_alter_41 ?_
      refine x_iload_n X dX11_alter_44 0 rfl rfl ?_
      exact x_retSI X R hf dX11_alter_45
theorem mt_X11_alter : MT yX11_alter cX11_alter 4 (some .int) "SignalBlind" 2 := ⟨(mT_2 3 rfl rfl), (mT_2 4 rfl rfl), (mT_1 1 rfl rfl), (mT_2 5 rfl rfl), by decide⟩

abbrev rm_X11_isSender : Room := { frames := 0, cells := 0, slots := 0, locals := 0 }
def f_X11_isSender_32 (h : hp) (a2 : Int32) : Option Int32 := (ckZ a2
 (some a2))
def f_X11_isSender_31 (h : hp) : Option Int32 := (f_X11_isSender_32 h (0 : Int32))
def f_X11_isSender (h : hp) (p0 : Int32) : Option Int32 := (if p0 < 0 then
 (f_X11_isSender_31 h)
 else
 (if p0 < (hI h 1 2) then
 (chk p0 5
 (onO (aR h 4 (p0).toNatClampNeg)
 (f_X11_isSender_31 h)
 (fun _ =>
 (f_X11_isSender_32 h (1 : Int32)))))
 else
 (f_X11_isSender_31 h)))
set_option maxRecDepth 100000 in
set_option maxHeartbeats 4000000 in
theorem k_X11_isSender_32 {ω : XO} (hω : ω.2.2.2.1 = 1) {κ : XK} (X : XC ω rm_X11_isSender 2 κ cX11_isSender "SignalBlind") {L : List Nat} {q : Nat → Nat} {h : hp} {r : Int32} (R : XRet ω rm_X11_isSender κ (some .boolean) L q h (some (.int r))) : ∀ (a2 : Int32), f_X11_isSender_32 h a2 = some r → XG ω rm_X11_isSender 2 κ L q h 0 0 32 [] [.int a2] := by
  intro a2 hf
  unfold f_X11_isSender_32 at hf
  obtain ⟨z3, hf⟩ := ckZ_some hf
  exact x_retRZ X R z3 hf dX11_isSender_32
set_option maxRecDepth 100000 in
set_option maxHeartbeats 4000000 in
theorem k_X11_isSender_31 {ω : XO} (hω : ω.2.2.2.1 = 1) {κ : XK} (X : XC ω rm_X11_isSender 2 κ cX11_isSender "SignalBlind") {L : List Nat} {q : Nat → Nat} {h : hp} {r : Int32} (R : XRet ω rm_X11_isSender κ (some .boolean) L q h (some (.int r))) : f_X11_isSender_31 h = some r → XG ω rm_X11_isSender 2 κ L q h 0 0 31 [] [] := by
  intro  hf
  unfold f_X11_isSender_31 at hf
  refine x_iconst X (v := 0) dX11_isSender_31 (by decide) ?_
  refine x_lv [] rfl ?_
  exact k_X11_isSender_32 hω X R _ hf
set_option maxRecDepth 100000 in
set_option maxHeartbeats 4000000 in
theorem k_X11_isSender {ω : XO} (hω : ω.2.2.2.1 = 1) {L : List Nat} {q : Nat → Nat} {h : hp} {p0 : Int32} {r : Int32} (hf : f_X11_isSender h p0 = some r) : XM ω yX11_isSender cX11_isSender 2 (some .boolean) rm_X11_isSender L q h [.ref (q 0), .int p0] (some (.int r)) h := by
  refine XM_intro [(0, .ref (q 0)), (1, .int p0)] "SignalBlind" (by decide) rfl rfl (Nat.le_of_ble_eq_true rfl) (fun κ X R => ?_)
  unfold f_X11_isSender at hf
  refine x_iload_n X dX11_isSender_0 1 rfl rfl ?_
  refine x_if_lt X 31 dX11_isSender_1 (by decide) (fun c1 => ?_) (fun c1 => ?_)
  · replace hf := (if_pos c1).symm.trans hf
    refine x_lv [] rfl ?_
    exact k_X11_isSender_31 hω X R  hf
  · replace hf := (if_neg c1).symm.trans hf
    refine x_iload_n X dX11_isSender_4 1 rfl rfl ?_
    refine x_aload_n X dX11_isSender_5 0 rfl rfl ?_
    refine x_getsj X (i := 0) 1 fl_X11_14_12 (sdX_0 hω) (ks_0 _) rfl (j := 1) rfl dX11_isSender_6 ?_
    refine x_geti X (i := 1) fl_X11_101_4 (sdX_1 hω) (ks_1 _) rfl dX11_isSender_9 ?_
    refine x_icmp_ge X 31 dX11_isSender_12 (by decide) (fun c4 => ?_) (fun c4 => ?_)
    · replace hf := (if_pos c4).symm.trans hf
      refine x_aload_n X dX11_isSender_15 0 rfl rfl ?_
      refine x_getsj X (i := 0) 1 fl_X11_14_12 (sdX_0 hω) (ks_0 _) rfl (j := 1) rfl dX11_isSender_16 ?_
      refine x_getsj X (i := 1) 3 fl_X11_115_4 (sdX_1 hω) (ks_1 _) rfl (j := 4) rfl dX11_isSender_19 ?_
      refine x_iload_n X dX11_isSender_22 1 rfl rfl ?_
      obtain ⟨z5, hf⟩ := chk_some hf
      refine x_aald X (i := 4) (n := 5) (e := 4) (by decide) (sdX_4 hω) (ks_4 _) z5 dX11_isSender_23 ?_
      refine x_ifnull X 31 dX11_isSender_24 (by decide) (fun e6 => ?_) (fun i7 e6 => ?_)
      · replace hf := (onO_none e6).symm.trans hf
        refine x_lv [] rfl ?_
        exact k_X11_isSender_31 hω X R  hf
      · replace hf := (onO_is e6).symm.trans hf
        refine x_iconst X (v := 1) dX11_isSender_27 (by decide) ?_
        refine x_goto X 32 dX11_isSender_28 (by decide) ?_
        refine x_lv [] rfl ?_
        exact k_X11_isSender_32 hω X R _ hf
    · replace hf := (if_neg c4).symm.trans hf
      refine x_lv [] rfl ?_
      exact k_X11_isSender_31 hω X R  hf
theorem mt_X11_isSender : MT yX11_isSender cX11_isSender 2 (some .boolean) "SignalBlind" 1 := ⟨(mT_2 120 rfl rfl), (mTp (q := (yX11_isSender, 12)) (by decide +kernel) rfl), (mT_1 1 rfl rfl), (mT_2 121 rfl rfl), by decide⟩
theorem c_X11_112 {ω : XO} {rm : Room} {nL : Nat} {κ : XK} {cc : ByteArray} (X : XC ω rm nL κ cc "SignalBlind") (hω : ω.2.2.2.1 = 1) {L : List Nat} {q : Nat → Nat} {h : hp} {cells slots pc : Nat} {lv : List (Nat × Value)} {rest : List Value} {p0 : Int32} {r : Int32} (hf : f_X11_isSender h p0 = some r) (hR : rm_X11_isSender.frames + 1 ≤ rm.frames ∧ 8 + (2 + 11) + rm_X11_isSender.locals ≤ rm.locals) (hcs : cells ≤ rm.cells ∧ slots ≤ rm.slots) (hroom : (rest.map fun v => v.category).sum ≤ 8) (hd : decode cc pc = .ok (.invokevirtual 112, 3)) (kk : XG ω rm nL κ L q h cells slots (pc + 3) lv (.int r :: rest)) : XG ω rm nL κ L q h cells slots pc lv (.int p0 :: .ref (q 0) :: rest) := x_callV X [.int p0] rest (k_X11_isSender hω hf) mt_X11_isSender (mT_2 118 rfl rfl) hR ⟨rfl, rfl⟩ hcs (sdX_0 hω) (ks_0 _) (by decide) rfl rfl hroom hd kk

abbrev rm_D_showing : Room := { frames := 2, cells := 0, slots := 0, locals := 70 }
def f_D_showing (h : hp) (o : Nat) (a b c d : Int32) : Option Int32 := if kdOf h o = 2 then f_X0_showing h o a b c d else if kdOf h o = 3 then f_X1_showing h o a b c d else if kdOf h o = 6 then f_X4_showing h o a b c d else if kdOf h o = 7 then f_X5_showing h o a b c d else if kdOf h o = 9 then f_X7_showing h o a b c d else if kdOf h o = 10 then f_X8_showing h o a b c d else if kdOf h o = 12 then f_X10_showing h o a b c d else none
theorem cd_X11_277 {ω : XO} {rm : Room} {nL : Nat} {κ : XK} {cc : ByteArray} (X : XC ω rm nL κ cc "SignalBlind") (hω : ω.2.2.2.1 = 1) {L : List Nat} {q : Nat → Nat} {h : hp} {cells slots pc : Nat} {lv : List (Nat × Value)} {rest : List Value} {o : Nat} {a b c d r : Int32} (hso : sd ω.2.2.2.1 o = true) (hf : f_D_showing h o a b c d = some r) (hR : rm_D_showing.frames + 1 ≤ rm.frames ∧ rm_D_showing.locals ≤ rm.locals) (hcs : cells ≤ rm.cells ∧ slots ≤ rm.slots) (hroom : (rest.map fun v => v.category).sum ≤ 8) (hd : decode cc pc = .ok (.invokevirtual 277, 3)) (kk : XG ω rm nL κ L q h cells slots (pc + 3) lv (.int r :: rest)) : XG ω rm nL κ L q h cells slots pc lv (.int d :: .int c :: .int b :: .int a :: .ref (q o) :: rest) := by
  unfold f_D_showing at hf
  by_cases k2 : kdOf h o = 2
  · replace hf := (if_pos k2).symm.trans hf
    exact x_callO (owner := "SignalBlind$Sender") (x := yX4_showing) X [.int a, .int b, .int c, .int d] rest (k_X0_showing hω hf) (by intro w hw; simp only [List.mem_cons, List.not_mem_nil, or_false] at hw; rcases hw with rfl | rfl | rfl | rfl | rfl | rfl <;> first | exact (mT_2 157 rfl rfl) | exact (mT_2 160 rfl rfl) | exact (mT_2 158 rfl rfl) | exact (mT_2 161 rfl rfl) | exact (mT_2 162 rfl rfl) | exact (mT_1 13 rfl rfl)) (mT_2 163 rfl rfl) (mT_2 186 rfl rfl) ⟨by decide, by decide, (by decide : (parseMethodDescriptor yX4_showing.desc).map (fun d => d.parameters.length) = some 4)⟩ ⟨Nat.le_trans (Nat.add_le_add_right (Nat.le_of_ble_eq_true rfl : rm_X0_showing.frames ≤ rm_D_showing.frames) 1) hR.1, Nat.le_trans (Nat.le_of_ble_eq_true rfl : 8 + (5 + 11) + rm_X0_showing.locals ≤ rm_D_showing.locals) hR.2⟩ ⟨rfl, rfl⟩ hcs hso k2 (by decide) rfl rfl hroom hd kk
  replace hf := (if_neg k2).symm.trans hf
  by_cases k3 : kdOf h o = 3
  · replace hf := (if_pos k3).symm.trans hf
    exact x_callO (owner := "SignalBlind$Sender") (x := yX4_showing) X [.int a, .int b, .int c, .int d] rest (k_X1_showing hω hf) (by intro w hw; simp only [List.mem_cons, List.not_mem_nil, or_false] at hw; rcases hw with rfl | rfl | rfl | rfl | rfl | rfl <;> first | exact (mT_2 157 rfl rfl) | exact (mT_2 160 rfl rfl) | exact (mT_2 158 rfl rfl) | exact (mT_2 164 rfl rfl) | exact (mT_2 165 rfl rfl) | exact (mT_1 14 rfl rfl)) (mT_2 166 rfl rfl) (mT_2 186 rfl rfl) ⟨by decide, by decide, (by decide : (parseMethodDescriptor yX4_showing.desc).map (fun d => d.parameters.length) = some 4)⟩ ⟨Nat.le_trans (Nat.add_le_add_right (Nat.le_of_ble_eq_true rfl : rm_X1_showing.frames ≤ rm_D_showing.frames) 1) hR.1, Nat.le_trans (Nat.le_of_ble_eq_true rfl : 8 + (5 + 11) + rm_X1_showing.locals ≤ rm_D_showing.locals) hR.2⟩ ⟨rfl, rfl⟩ hcs hso k3 (by decide) rfl rfl hroom hd kk
  replace hf := (if_neg k3).symm.trans hf
  by_cases k6 : kdOf h o = 6
  · replace hf := (if_pos k6).symm.trans hf
    exact x_callV X [.int a, .int b, .int c, .int d] rest (k_X4_showing hω hf) mt_X4_showing (mT_2 157 rfl rfl) ⟨Nat.le_trans (Nat.add_le_add_right (Nat.le_of_ble_eq_true rfl : rm_X4_showing.frames ≤ rm_D_showing.frames) 1) hR.1, Nat.le_trans (Nat.le_of_ble_eq_true rfl : 8 + (5 + 11) + rm_X4_showing.locals ≤ rm_D_showing.locals) hR.2⟩ ⟨rfl, rfl⟩ hcs hso k6 (by decide) rfl rfl hroom hd kk
  replace hf := (if_neg k6).symm.trans hf
  by_cases k7 : kdOf h o = 7
  · replace hf := (if_pos k7).symm.trans hf
    exact x_callO (owner := "SignalBlind$Sender") (x := yX4_showing) X [.int a, .int b, .int c, .int d] rest (k_X5_showing hω hf) (by intro w hw; simp only [List.mem_cons, List.not_mem_nil, or_false] at hw; rcases hw with rfl | rfl | rfl | rfl | rfl | rfl <;> first | exact (mT_2 157 rfl rfl) | exact (mT_2 160 rfl rfl) | exact (mT_2 158 rfl rfl) | exact (mT_2 167 rfl rfl) | exact (mT_2 168 rfl rfl) | exact (mT_1 15 rfl rfl)) (mT_2 169 rfl rfl) (mT_2 186 rfl rfl) ⟨by decide, by decide, (by decide : (parseMethodDescriptor yX4_showing.desc).map (fun d => d.parameters.length) = some 4)⟩ ⟨Nat.le_trans (Nat.add_le_add_right (Nat.le_of_ble_eq_true rfl : rm_X5_showing.frames ≤ rm_D_showing.frames) 1) hR.1, Nat.le_trans (Nat.le_of_ble_eq_true rfl : 8 + (5 + 11) + rm_X5_showing.locals ≤ rm_D_showing.locals) hR.2⟩ ⟨rfl, rfl⟩ hcs hso k7 (by decide) rfl rfl hroom hd kk
  replace hf := (if_neg k7).symm.trans hf
  by_cases k9 : kdOf h o = 9
  · replace hf := (if_pos k9).symm.trans hf
    exact x_callO (owner := "SignalBlind$Sender") (x := yX4_showing) X [.int a, .int b, .int c, .int d] rest (k_X7_showing hω hf) (by intro w hw; simp only [List.mem_cons, List.not_mem_nil, or_false] at hw; rcases hw with rfl | rfl | rfl | rfl | rfl | rfl <;> first | exact (mT_2 157 rfl rfl) | exact (mT_2 160 rfl rfl) | exact (mT_2 158 rfl rfl) | exact (mT_2 177 rfl rfl) | exact (mT_2 171 rfl rfl) | exact (mT_1 12 rfl rfl)) (mT_2 172 rfl rfl) (mT_2 186 rfl rfl) ⟨by decide, by decide, (by decide : (parseMethodDescriptor yX4_showing.desc).map (fun d => d.parameters.length) = some 4)⟩ ⟨Nat.le_trans (Nat.add_le_add_right (Nat.le_of_ble_eq_true rfl : rm_X7_showing.frames ≤ rm_D_showing.frames) 1) hR.1, Nat.le_trans (Nat.le_of_ble_eq_true rfl : 8 + (5 + 11) + rm_X7_showing.locals ≤ rm_D_showing.locals) hR.2⟩ ⟨rfl, rfl⟩ hcs hso k9 (by decide) rfl rfl hroom hd kk
  replace hf := (if_neg k9).symm.trans hf
  by_cases k10 : kdOf h o = 10
  · replace hf := (if_pos k10).symm.trans hf
    exact x_callO (owner := "SignalBlind$Sender") (x := yX4_showing) X [.int a, .int b, .int c, .int d] rest (k_X8_showing hω hf) (by intro w hw; simp only [List.mem_cons, List.not_mem_nil, or_false] at hw; rcases hw with rfl | rfl | rfl | rfl | rfl | rfl <;> first | exact (mT_2 157 rfl rfl) | exact (mT_2 160 rfl rfl) | exact (mT_2 158 rfl rfl) | exact (mT_2 178 rfl rfl) | exact (mT_2 179 rfl rfl) | exact (mT_1 17 rfl rfl)) (mT_2 180 rfl rfl) (mT_2 186 rfl rfl) ⟨by decide, by decide, (by decide : (parseMethodDescriptor yX4_showing.desc).map (fun d => d.parameters.length) = some 4)⟩ ⟨Nat.le_trans (Nat.add_le_add_right (Nat.le_of_ble_eq_true rfl : rm_X8_showing.frames ≤ rm_D_showing.frames) 1) hR.1, Nat.le_trans (Nat.le_of_ble_eq_true rfl : 8 + (5 + 11) + rm_X8_showing.locals ≤ rm_D_showing.locals) hR.2⟩ ⟨rfl, rfl⟩ hcs hso k10 (by decide) rfl rfl hroom hd kk
  replace hf := (if_neg k10).symm.trans hf
  by_cases k12 : kdOf h o = 12
  · replace hf := (if_pos k12).symm.trans hf
    exact x_callO (owner := "SignalBlind$Sender") (x := yX4_showing) X [.int a, .int b, .int c, .int d] rest (k_X10_showing hω hf) (by intro w hw; simp only [List.mem_cons, List.not_mem_nil, or_false] at hw; rcases hw with rfl | rfl | rfl | rfl | rfl | rfl <;> first | exact (mT_2 157 rfl rfl) | exact (mT_2 160 rfl rfl) | exact (mT_2 158 rfl rfl) | exact (mT_2 182 rfl rfl) | exact (mT_2 183 rfl rfl) | exact (mT_1 16 rfl rfl)) (mT_2 184 rfl rfl) (mT_2 186 rfl rfl) ⟨by decide, by decide, (by decide : (parseMethodDescriptor yX4_showing.desc).map (fun d => d.parameters.length) = some 4)⟩ ⟨Nat.le_trans (Nat.add_le_add_right (Nat.le_of_ble_eq_true rfl : rm_X10_showing.frames ≤ rm_D_showing.frames) 1) hR.1, Nat.le_trans (Nat.le_of_ble_eq_true rfl : 8 + (5 + 11) + rm_X10_showing.locals ≤ rm_D_showing.locals) hR.2⟩ ⟨rfl, rfl⟩ hcs hso k12 (by decide) rfl rfl hroom hd kk
  replace hf := (if_neg k12).symm.trans hf
  cases hf

abbrev rm_X11_shown : Room := { frames := 3, cells := 0, slots := 0, locals := 76 }
def f_X11_shown_107 (h : hp) (a3 : Int32) (a4 : Int32) (a5 : Int32) (a6 : Nat) (a7 : Int32) : Option (hp × Int32) := (nz (4 : Int32)
 (chk ((a3 * (4 : Int32)) + (a5 - a5 / (4 : Int32) * (4 : Int32))) 20
 (ckS h a6
 (bnr (f_D_showing h a6 a7 a4 a5 (aI h 6 (((a3 * (4 : Int32)) + (a5 - a5 / (4 : Int32) * (4 : Int32)))).toNatClampNeg)) fun r11 =>
 (some (h, r11))))))
def f_X11_shown (h : hp) (p0 : Int32) (p1 : Int32) (p2 : Int32) (p3 : Int32) : Option (hp × Int32) := (chk p0 5
 (onO (aR h 4 (p0).toNatClampNeg) none fun i2 =>
 (onO (hR h 1 9)
 (f_X11_shown_107 h p0 p1 p2 i2 p3)
 (fun _ =>
 (chk (0 : Int32) 6
 (nm (tI h 35 ((0 : Int32)).toNatClampNeg p0) fun h14 =>
 (ckS h14 i2
 (chk (1 : Int32) 6
 (nm (tI h14 35 ((1 : Int32)).toNatClampNeg (hI h14 i2 1)) fun h17 =>
 (chk (2 : Int32) 6
 (nm (tI h17 35 ((2 : Int32)).toNatClampNeg p1) fun h19 =>
 (bnr (f_J6_bitCount_0f7a4 h19 p3) fun r20 =>
 (chk (3 : Int32) 6
 (nm (tI h19 35 ((3 : Int32)).toNatClampNeg r20) fun h23 =>
 (chk p0 5
 (nz (10 : Int32)
 (chk (4 : Int32) 6
 (nm (tI h23 35 ((4 : Int32)).toNatClampNeg ((aI h23 5 (p0).toNatClampNeg) - (aI h23 5 (p0).toNatClampNeg) / (10 : Int32) * (10 : Int32))) fun h27 =>
 (nz (24 : Int32)
 (chk (5 : Int32) 6
 (nm (tI h27 35 ((5 : Int32)).toNatClampNeg (p2 - p2 / (24 : Int32) * (24 : Int32))) fun h30 =>
 (onO (hR h30 1 9) none fun i31 =>
 (ckO 1 h30 i31 11
 (bnr (f_X9_done h30 i31 p3 35) fun r33 =>
 (f_X11_shown_107 h30 p0 p1 p2 i2 r33)))))))))))))))))))))))))
set_option maxRecDepth 100000 in
set_option maxHeartbeats 4000000 in
theorem k_X11_shown_107 {ω : XO} (hω : ω.2.2.2.1 = 1) {κ : XK} (X : XC ω rm_X11_shown 7 κ cX11_shown "SignalBlind") {L : List Nat} {q : Nat → Nat} {h' : hp} {r : Int32} (R : XRet ω rm_X11_shown κ (some .int) L q h' (some (.int r))) : ∀ (h : hp) (a3 : Int32) (a4 : Int32) (a5 : Int32) (a6 : Nat) (a7 : Int32), f_X11_shown_107 h a3 a4 a5 a6 a7 = some (h', r) → XG ω rm_X11_shown 7 κ L q h 0 0 107 [(0, .ref (q 0)), (1, .int a3), (2, .int a4), (3, .int a5), (5, .ref (q a6)), (6, .int a7)] [] := by
  intro h a3 a4 a5 a6 a7 hf
  unfold f_X11_shown_107 at hf
  refine x_aload X dX11_shown_107 4 rfl ?_
  refine x_iload X dX11_shown_109 5 rfl ?_
  refine x_iload_n X dX11_shown_111 2 rfl rfl ?_
  refine x_iload_n X dX11_shown_112 3 rfl rfl ?_
  refine x_aload_n X dX11_shown_113 0 rfl rfl ?_
  refine x_getsj X (i := 0) 1 fl_X11_14_12 (sdX_0 hω) (ks_0 _) rfl (j := 1) rfl dX11_shown_114 ?_
  refine x_getsj X (i := 1) 5 fl_X11_145_4 (sdX_1 hω) (ks_1 _) rfl (j := 6) rfl dX11_shown_117 ?_
  refine x_iload_n X dX11_shown_120 1 rfl rfl ?_
  refine x_iconst X (v := 4) dX11_shown_121 (by decide) ?_
  refine x_imul X dX11_shown_122 ?_
  refine x_iload_n X dX11_shown_123 3 rfl rfl ?_
  refine x_iconst X (v := 4) dX11_shown_124 (by decide) ?_
  obtain ⟨z8, hf⟩ := nz_some hf
  refine x_irem X dX11_shown_125 z8 ?_
  refine x_iadd X dX11_shown_126 ?_
  obtain ⟨z9, hf⟩ := chk_some hf
  refine x_iald X (i := 6) (n := 20) (sdX_6 hω) (ks_6 _) z9 dX11_shown_127 ?_
  obtain ⟨b10, hf⟩ := ckS_some hf
  obtain ⟨r11, g12, hf⟩ := bnr_some hf
  refine cd_X11_277 X hω (sd_of hω b10.1) g12 (hR := ⟨Nat.le_of_ble_eq_true rfl, Nat.le_of_ble_eq_true rfl⟩) ⟨Nat.zero_le _, Nat.zero_le _⟩ (Nat.le_of_ble_eq_true rfl) dX11_shown_128 ?_
  exact x_retSI X R hf dX11_shown_131
set_option maxRecDepth 100000 in
set_option maxHeartbeats 4000000 in
theorem k_X11_shown {ω : XO} (hω : ω.2.2.2.1 = 1) {L : List Nat} {q : Nat → Nat} {h h' : hp} {p0 : Int32} {p1 : Int32} {p2 : Int32} {p3 : Int32} {r : Int32} (hf : f_X11_shown h p0 p1 p2 p3 = some (h', r)) : XM ω yX11_shown cX11_shown 7 (some .int) rm_X11_shown L q h [.ref (q 0), .int p0, .int p1, .int p2, .int p3] (some (.int r)) h' := by
  refine XM_intro [(0, .ref (q 0)), (1, .int p0), (2, .int p1), (3, .int p2), (4, .int p3)] "SignalBlind" (by decide) rfl rfl (Nat.le_of_ble_eq_true rfl) (fun κ X R => ?_)
  unfold f_X11_shown at hf
  refine x_aload_n X dX11_shown_0 0 rfl rfl ?_
  refine x_getsj X (i := 0) 1 fl_X11_14_12 (sdX_0 hω) (ks_0 _) rfl (j := 1) rfl dX11_shown_1 ?_
  refine x_getsj X (i := 1) 3 fl_X11_115_4 (sdX_1 hω) (ks_1 _) rfl (j := 4) rfl dX11_shown_4 ?_
  refine x_iload_n X dX11_shown_7 1 rfl rfl ?_
  obtain ⟨z1, hf⟩ := chk_some hf
  refine x_aald X (i := 4) (n := 5) (e := 4) (by decide) (sdX_4 hω) (ks_4 _) z1 dX11_shown_8 ?_
  obtain ⟨i2, ei2, hf⟩ := onO_some hf
  refine x_nn ei2 ?_
  refine x_astore X [(5, .ref (q i2)), (0, .ref (q 0)), (1, .int p0), (2, .int p1), (3, .int p2), (4, .int p3)] dX11_shown_9 (Nat.le_of_ble_eq_true rfl) rfl ?_
  refine x_iload X dX11_shown_11 5 rfl ?_
  refine x_istore X [(6, .int p3), (5, .ref (q i2)), (0, .ref (q 0)), (1, .int p0), (2, .int p1), (3, .int p2), (4, .int p3)] dX11_shown_13 (Nat.le_of_ble_eq_true rfl) rfl ?_
  refine x_aload_n X dX11_shown_15 2 rfl rfl ?_
  refine x_getsj X (i := 0) 1 fl_X11_14_12 (sdX_0 hω) (ks_0 _) rfl (j := 1) rfl dX11_shown_16 ?_
  refine x_getr X (i := 1) fl_X11_155_4 (sdX_1 hω) (ks_1 _) rfl dX11_shown_19 ?_
  refine x_ifnull X 107 dX11_shown_22 (by decide) (fun e35 => ?_) (fun i36 e35 => ?_)
  · replace hf := (onO_none e35).symm.trans hf
    refine x_lv [2, 3, 4, 5, 1, 0] rfl ?_
    exact k_X11_shown_107 hω X R h _ _ _ _ _ hf
  · replace hf := (onO_is e35).symm.trans hf
    refine x_aload_n X dX11_shown_25 2 rfl rfl ?_
    refine x_getsj X (i := 0) 35 fl_X11_58_12 (sdX_0 hω) (ks_0 _) rfl (j := 35) rfl dX11_shown_26 ?_
    refine x_iconst X (v := 0) dX11_shown_29 (by decide) ?_
    refine x_iload_n X dX11_shown_30 3 rfl rfl ?_
    obtain ⟨z13, hf⟩ := chk_some hf
    refine x_iast X (i := 35) (n := 6) (sdX_35 hω) (ks_35 _) z13 dX11_shown_31 ?_
    obtain ⟨h14, eh14, hf⟩ := nm_some hf
    refine x_nmh eh14 ?_
    refine x_aload_n X dX11_shown_32 2 rfl rfl ?_
    refine x_getsj X (i := 0) 35 fl_X11_58_12 (sdX_0 hω) (ks_0 _) rfl (j := 35) rfl dX11_shown_33 ?_
    refine x_iconst X (v := 1) dX11_shown_36 (by decide) ?_
    refine x_aload X dX11_shown_37 1 rfl ?_
    obtain ⟨b15, hf⟩ := ckS_some hf
    refine x_getS_X11_119 X hω b15 dX11_shown_39 ?_
    obtain ⟨z16, hf⟩ := chk_some hf
    refine x_iast X (i := 35) (n := 6) (sdX_35 hω) (ks_35 _) z16 dX11_shown_42 ?_
    obtain ⟨h17, eh17, hf⟩ := nm_some hf
    refine x_nmh eh17 ?_
    refine x_aload_n X dX11_shown_43 2 rfl rfl ?_
    refine x_getsj X (i := 0) 35 fl_X11_58_12 (sdX_0 hω) (ks_0 _) rfl (j := 35) rfl dX11_shown_44 ?_
    refine x_iconst X (v := 2) dX11_shown_47 (by decide) ?_
    refine x_iload_n X dX11_shown_48 4 rfl rfl ?_
    obtain ⟨z18, hf⟩ := chk_some hf
    refine x_iast X (i := 35) (n := 6) (sdX_35 hω) (ks_35 _) z18 dX11_shown_49 ?_
    obtain ⟨h19, eh19, hf⟩ := nm_some hf
    refine x_nmh eh19 ?_
    refine x_aload_n X dX11_shown_50 2 rfl rfl ?_
    refine x_getsj X (i := 0) 35 fl_X11_58_12 (sdX_0 hω) (ks_0 _) rfl (j := 35) rfl dX11_shown_51 ?_
    refine x_iconst X (v := 3) dX11_shown_54 (by decide) ?_
    refine x_iload X dX11_shown_55 6 rfl ?_
    obtain ⟨r20, g21, hf⟩ := bnr_some hf
    refine c_X11_201 X hω g21 (hR := ⟨Nat.le_of_ble_eq_true rfl, Nat.le_of_ble_eq_true rfl⟩) ⟨Nat.zero_le _, Nat.zero_le _⟩ (Nat.le_of_ble_eq_true rfl) dX11_shown_57 ?_
    obtain ⟨z22, hf⟩ := chk_some hf
    refine x_iast X (i := 35) (n := 6) (sdX_35 hω) (ks_35 _) z22 dX11_shown_60 ?_
    obtain ⟨h23, eh23, hf⟩ := nm_some hf
    refine x_nmh eh23 ?_
    refine x_aload_n X dX11_shown_61 2 rfl rfl ?_
    refine x_getsj X (i := 0) 35 fl_X11_58_12 (sdX_0 hω) (ks_0 _) rfl (j := 35) rfl dX11_shown_62 ?_
    refine x_iconst X (v := 4) dX11_shown_65 (by decide) ?_
    refine x_aload_n X dX11_shown_66 2 rfl rfl ?_
    refine x_getsj X (i := 0) 1 fl_X11_14_12 (sdX_0 hω) (ks_0 _) rfl (j := 1) rfl dX11_shown_67 ?_
    refine x_getsj X (i := 1) 4 fl_X11_127_4 (sdX_1 hω) (ks_1 _) rfl (j := 5) rfl dX11_shown_70 ?_
    refine x_iload_n X dX11_shown_73 3 rfl rfl ?_
    obtain ⟨z24, hf⟩ := chk_some hf
    refine x_iald X (i := 5) (n := 5) (sdX_5 hω) (ks_5 _) z24 dX11_shown_74 ?_
    refine x_bipush X (v := 10) dX11_shown_75 (by decide) ?_
    obtain ⟨z25, hf⟩ := nz_some hf
    refine x_irem X dX11_shown_77 z25 ?_
    obtain ⟨z26, hf⟩ := chk_some hf
    refine x_iast X (i := 35) (n := 6) (sdX_35 hω) (ks_35 _) z26 dX11_shown_78 ?_
    obtain ⟨h27, eh27, hf⟩ := nm_some hf
    refine x_nmh eh27 ?_
    refine x_aload_n X dX11_shown_79 2 rfl rfl ?_
    refine x_getsj X (i := 0) 35 fl_X11_58_12 (sdX_0 hω) (ks_0 _) rfl (j := 35) rfl dX11_shown_80 ?_
    refine x_iconst X (v := 5) dX11_shown_83 (by decide) ?_
    refine x_iload_n X dX11_shown_84 5 rfl rfl ?_
    refine x_bipush X (v := 24) dX11_shown_85 (by decide) ?_
    obtain ⟨z28, hf⟩ := nz_some hf
    refine x_irem X dX11_shown_87 z28 ?_
    obtain ⟨z29, hf⟩ := chk_some hf
    refine x_iast X (i := 35) (n := 6) (sdX_35 hω) (ks_35 _) z29 dX11_shown_88 ?_
    obtain ⟨h30, eh30, hf⟩ := nm_some hf
    refine x_nmh eh30 ?_
    refine x_aload_n X dX11_shown_89 2 rfl rfl ?_
    refine x_getsj X (i := 0) 1 fl_X11_14_12 (sdX_0 hω) (ks_0 _) rfl (j := 1) rfl dX11_shown_90 ?_
    refine x_getr X (i := 1) fl_X11_155_4 (sdX_1 hω) (ks_1 _) rfl dX11_shown_93 ?_
    obtain ⟨i31, ei31, hf⟩ := onO_some hf
    refine x_nn ei31 ?_
    refine x_iload X dX11_shown_96 6 rfl ?_
    refine x_aload_n X dX11_shown_98 2 rfl rfl ?_
    refine x_getsj X (i := 0) 35 fl_X11_58_12 (sdX_0 hω) (ks_0 _) rfl (j := 35) rfl dX11_shown_99 ?_
    obtain ⟨b32, hf⟩ := ckO_some hf
    obtain ⟨r33, g34, hf⟩ := bnr_some hf
    refine c_X11_273 X hω g34 (sd_of hω b32.1) b32.2 (hR := ⟨Nat.le_of_ble_eq_true rfl, Nat.le_of_ble_eq_true rfl⟩) ⟨Nat.zero_le _, Nat.zero_le _⟩ (Nat.le_of_ble_eq_true rfl) dX11_shown_102 ?_
    refine x_istore X [(6, .int r33), (5, .ref (q i2)), (0, .ref (q 0)), (1, .int p0), (2, .int p1), (3, .int p2), (4, .int p3)] dX11_shown_105 (Nat.le_of_ble_eq_true rfl) rfl ?_
    refine x_lv [2, 3, 4, 5, 1, 0] rfl ?_
    exact k_X11_shown_107 hω X R h30 _ _ _ _ _ hf
theorem mt_X11_shown : MT yX11_shown cX11_shown 7 (some .int) "SignalBlind" 4 := ⟨(mT_2 132 rfl rfl), (mTp (q := (yX11_shown, 12)) (by decide +kernel) rfl), (mT_1 1 rfl rfl), (mT_2 133 rfl rfl), by decide⟩
theorem c_X11_209 {ω : XO} {rm : Room} {nL : Nat} {κ : XK} {cc : ByteArray} (X : XC ω rm nL κ cc "SignalBlind") (hω : ω.2.2.2.1 = 1) {L : List Nat} {q : Nat → Nat} {h h' : hp} {cells slots pc : Nat} {lv : List (Nat × Value)} {rest : List Value} {p0 : Int32} {p1 : Int32} {p2 : Int32} {p3 : Int32} {r : Int32} (hf : f_X11_shown h p0 p1 p2 p3 = some (h', r)) (hR : rm_X11_shown.frames + 1 ≤ rm.frames ∧ 8 + (7 + 11) + rm_X11_shown.locals ≤ rm.locals) (hcs : cells ≤ rm.cells ∧ slots ≤ rm.slots) (hroom : (rest.map fun v => v.category).sum ≤ 8) (hd : decode cc pc = .ok (.invokevirtual 209, 3)) (kk : XG ω rm nL κ L q h' cells slots (pc + 3) lv (.int r :: rest)) : XG ω rm nL κ L q h cells slots pc lv (.int p3 :: .int p2 :: .int p1 :: .int p0 :: .ref (q 0) :: rest) := x_callV X [.int p0, .int p1, .int p2, .int p3] rest (k_X11_shown hω hf) mt_X11_shown (mT_2 130 rfl rfl) hR ⟨rfl, rfl⟩ hcs (sdX_0 hω) (ks_0 _) (by decide) rfl rfl hroom hd kk

abbrev rm_X11_near : Room := { frames := 0, cells := 0, slots := 0, locals := 0 }
def f_X11_near_24 (h : hp) (a1 : Int32) : Option Int32 := (some a1)
def f_X11_near (h : hp) : Option Int32 := (onO (hR h 1 9)
 (f_X11_near_24 h (2 : Int32))
 (fun _ =>
 (onO (hR h 1 9) none fun i2 =>
 (ckO 1 h i2 11
 (f_X11_near_24 h (hI h i2 6))))))
set_option maxRecDepth 100000 in
set_option maxHeartbeats 4000000 in
theorem k_X11_near_24 {ω : XO} (hω : ω.2.2.2.1 = 1) {κ : XK} (X : XC ω rm_X11_near 1 κ cX11_near "SignalBlind") {L : List Nat} {q : Nat → Nat} {h : hp} {r : Int32} (R : XRet ω rm_X11_near κ (some .int) L q h (some (.int r))) : ∀ (a1 : Int32), f_X11_near_24 h a1 = some r → XG ω rm_X11_near 1 κ L q h 0 0 24 [] [.int a1] := by
  intro a1 hf
  unfold f_X11_near_24 at hf
  exact x_retRI X R hf dX11_near_24
set_option maxRecDepth 100000 in
set_option maxHeartbeats 4000000 in
theorem k_X11_near {ω : XO} (hω : ω.2.2.2.1 = 1) {L : List Nat} {q : Nat → Nat} {h : hp}  {r : Int32} (hf : f_X11_near h = some r) : XM ω yX11_near cX11_near 1 (some .int) rm_X11_near L q h [.ref (q 0)] (some (.int r)) h := by
  refine XM_intro [(0, .ref (q 0))] "SignalBlind" (by decide) rfl rfl (Nat.le_of_ble_eq_true rfl) (fun κ X R => ?_)
  unfold f_X11_near at hf
  refine x_aload_n X dX11_near_0 0 rfl rfl ?_
  refine x_getsj X (i := 0) 1 fl_X11_14_12 (sdX_0 hω) (ks_0 _) rfl (j := 1) rfl dX11_near_1 ?_
  refine x_getr X (i := 1) fl_X11_155_4 (sdX_1 hω) (ks_1 _) rfl dX11_near_4 ?_
  refine x_ifnonnull X 14 dX11_near_7 (by decide) (fun e4 => ?_) (fun i5 e4 => ?_)
  · replace hf := (onO_none e4).symm.trans hf
    refine x_iconst X (v := 2) dX11_near_10 (by decide) ?_
    refine x_goto X 24 dX11_near_11 (by decide) ?_
    refine x_lv [] rfl ?_
    exact k_X11_near_24 hω X R _ hf
  · replace hf := (onO_is e4).symm.trans hf
    refine x_aload_n X dX11_near_14 0 rfl rfl ?_
    refine x_getsj X (i := 0) 1 fl_X11_14_12 (sdX_0 hω) (ks_0 _) rfl (j := 1) rfl dX11_near_15 ?_
    refine x_getr X (i := 1) fl_X11_155_4 (sdX_1 hω) (ks_1 _) rfl dX11_near_18 ?_
    obtain ⟨i2, ei2, hf⟩ := onO_some hf
    refine x_nn ei2 ?_
    obtain ⟨b3, hf⟩ := ckO_some hf
    refine x_geti X (i := i2) fl_X11_280_10 (sd_of hω b3.1) b3.2 rfl dX11_near_21 ?_
    refine x_lv [] rfl ?_
    exact k_X11_near_24 hω X R _ hf
theorem mt_X11_near : MT yX11_near cX11_near 1 (some .int) "SignalBlind" 0 := ⟨(mT_2 193 rfl rfl), (mTp (q := (yX11_near, 12)) (by decide +kernel) rfl), (mT_1 1 rfl rfl), (mT_2 194 rfl rfl), by decide⟩
theorem c_X11_161 {ω : XO} {rm : Room} {nL : Nat} {κ : XK} {cc : ByteArray} (X : XC ω rm nL κ cc "SignalBlind") (hω : ω.2.2.2.1 = 1) {L : List Nat} {q : Nat → Nat} {h : hp} {cells slots pc : Nat} {lv : List (Nat × Value)} {rest : List Value}  {r : Int32} (hf : f_X11_near h = some r) (hR : rm_X11_near.frames + 1 ≤ rm.frames ∧ 8 + (1 + 11) + rm_X11_near.locals ≤ rm.locals) (hcs : cells ≤ rm.cells ∧ slots ≤ rm.slots) (hroom : (rest.map fun v => v.category).sum ≤ 8) (hd : decode cc pc = .ok (.invokevirtual 161, 3)) (kk : XG ω rm nL κ L q h cells slots (pc + 3) lv (.int r :: rest)) : XG ω rm nL κ L q h cells slots pc lv (.ref (q 0) :: rest) := x_callV X [] rest (k_X11_near hω hf) mt_X11_near (mT_2 191 rfl rfl) hR ⟨rfl, rfl⟩ hcs (sdX_0 hω) (ks_0 _) (by decide) rfl rfl hroom hd kk

abbrev rm_X11_apart : Room := { frames := 1, cells := 0, slots := 0, locals := 20 }
def f_X11_apart (h : hp) (p0 : Int32) (p1 : Int32) : Option Int32 := (bnr (f_J6_bitCount_0f7a4 h (p0 ^^^ p1)) fun r1 =>
 (some r1))
set_option maxRecDepth 100000 in
set_option maxHeartbeats 4000000 in
theorem k_X11_apart {ω : XO} (hω : ω.2.2.2.1 = 1) {L : List Nat} {q : Nat → Nat} {h : hp} {p0 : Int32} {p1 : Int32} {r : Int32} (hf : f_X11_apart h p0 p1 = some r) : XM ω yX11_apart cX11_apart 2 (some .int) rm_X11_apart L q h [.int p0, .int p1] (some (.int r)) h := by
  refine XM_intro [(0, .int p0), (1, .int p1)] "SignalBlind" (by decide) rfl rfl (Nat.le_of_ble_eq_true rfl) (fun κ X R => ?_)
  unfold f_X11_apart at hf
  refine x_iload_n X dX11_apart_0 0 rfl rfl ?_
  refine x_iload_n X dX11_apart_1 1 rfl rfl ?_
  refine x_ixor X dX11_apart_2 ?_
  obtain ⟨r1, g2, hf⟩ := bnr_some hf
  refine c_X11_201 X hω g2 (hR := ⟨Nat.le_of_ble_eq_true rfl, Nat.le_of_ble_eq_true rfl⟩) ⟨Nat.zero_le _, Nat.zero_le _⟩ (Nat.le_of_ble_eq_true rfl) dX11_apart_3 ?_
  exact x_retRI X R hf dX11_apart_6
theorem mt_X11_apart : MS yX11_apart cX11_apart 2 (some .int) 2 := ⟨(mT_2 196 rfl rfl), (mT_1 1 rfl rfl), (mT_2 197 rfl rfl), by decide⟩
theorem c_X11_282 {ω : XO} {rm : Room} {nL : Nat} {κ : XK} {cc : ByteArray} (X : XC ω rm nL κ cc "SignalBlind") (hω : ω.2.2.2.1 = 1) {L : List Nat} {q : Nat → Nat} {h : hp} {cells slots pc : Nat} {lv : List (Nat × Value)} {rest : List Value} {p0 : Int32} {p1 : Int32} {r : Int32} (hf : f_X11_apart h p0 p1 = some r) (hR : rm_X11_apart.frames + 1 ≤ rm.frames ∧ 8 + (2 + 11) + rm_X11_apart.locals ≤ rm.locals) (hcs : cells ≤ rm.cells ∧ slots ≤ rm.slots) (hroom : (rest.map fun v => v.category).sum ≤ 8) (hd : decode cc pc = .ok (.invokestatic 282, 3)) (kk : XG ω rm nL κ L q h cells slots (pc + 3) lv (.int r :: rest)) : XG ω rm nL κ L q h cells slots pc lv (.int p1 :: .int p0 :: rest) := x_callS X [.int p0, .int p1] rest (k_X11_apart hω hf) mt_X11_apart (mT_2 195 rfl rfl) hR ⟨rfl, rfl⟩ hcs rfl hroom hd kk

abbrev rm_X11_readAs : Room := { frames := 2, cells := 0, slots := 0, locals := 41 }
def f_X11_readAs_58 (h : hp) (k13 : Int32 → Int32 → Int32 → Int32 → Option Int32) (a14 : Int32) (a15 : Int32) (a16 : Int32) (a17 : Int32) : Option Int32 := (nm (a17 + (1 : Int32)) fun v18 =>
 (k13 a14 a15 a16 v18))
def f_X11_readAs_13 (h : hp) : Nat → Int32 → Int32 → Int32 → Int32 → Option Int32
  | 0, _, _, _, _ => none
  | n + 1, a4, a5, a6, a7 => (if a7 < (hI h 2 1) then
 (bnr (f_X2_get h 2 a7) fun r9 =>
 (bnr (f_X11_apart h a4 r9) fun r11 =>
 (if r11 < a6 then
 (f_X11_readAs_58 h (f_X11_readAs_13 h n) a4 a7 r11 a7)
 else
 (f_X11_readAs_58 h (f_X11_readAs_13 h n) a4 a5 a6 a7))))
 else
 (some a5))
def f_X11_readAs (h : hp) (p0 : Int32) : Option Int32 := (bnr (f_X11_near h) fun r1 =>
 (nm (r1 + (1 : Int32)) fun v3 =>
 (f_X11_readAs_13 h 2000 p0 (-5 : Int32) v3 (0 : Int32))))
set_option maxRecDepth 100000 in
set_option maxHeartbeats 4000000 in
theorem k_X11_readAs_58 {ω : XO} (hω : ω.2.2.2.1 = 1) {κ : XK} (X : XC ω rm_X11_readAs 6 κ cX11_readAs "SignalBlind") {L : List Nat} {q : Nat → Nat} {h : hp} {r : Int32} (R : XRet ω rm_X11_readAs κ (some .int) L q h (some (.int r))) (k13 : Int32 → Int32 → Int32 → Int32 → Option Int32) (hk13 : ∀ (a4 : Int32) (a5 : Int32) (a6 : Int32) (a7 : Int32), k13 a4 a5 a6 a7 = some r → XG ω rm_X11_readAs 6 κ L q h 0 0 13 [(0, .ref (q 0)), (1, .int a4), (2, .int a5), (3, .int a6), (4, .int a7)] []) : ∀ (a14 : Int32) (a15 : Int32) (a16 : Int32) (a17 : Int32), f_X11_readAs_58 h k13 a14 a15 a16 a17 = some r → XG ω rm_X11_readAs 6 κ L q h 0 0 58 [(0, .ref (q 0)), (1, .int a14), (2, .int a15), (3, .int a16), (4, .int a17)] [] := by
  intro a14 a15 a16 a17 hf
  unfold f_X11_readAs_58 at hf
  obtain ⟨v18, ev18, hf⟩ := nm_some hf
  refine x_iincN X (v := 1) ev18 [(4, .int v18), (0, .ref (q 0)), (1, .int a14), (2, .int a15), (3, .int a16)] dX11_readAs_58 4 rfl (by decide) (Nat.le_of_ble_eq_true rfl) rfl ?_
  refine x_goto X 13 dX11_readAs_61 (by decide) ?_
  refine x_lv [1, 2, 3, 4, 0] rfl ?_
  exact hk13 _ _ _ _ hf
set_option maxRecDepth 100000 in
set_option maxHeartbeats 4000000 in
theorem k_X11_readAs_13 {ω : XO} (hω : ω.2.2.2.1 = 1) {κ : XK} (X : XC ω rm_X11_readAs 6 κ cX11_readAs "SignalBlind") {L : List Nat} {q : Nat → Nat} {h : hp} {r : Int32} (R : XRet ω rm_X11_readAs κ (some .int) L q h (some (.int r))) : ∀ (n : Nat) (a4 : Int32) (a5 : Int32) (a6 : Int32) (a7 : Int32), f_X11_readAs_13 h n a4 a5 a6 a7 = some r → XG ω rm_X11_readAs 6 κ L q h 0 0 13 [(0, .ref (q 0)), (1, .int a4), (2, .int a5), (3, .int a6), (4, .int a7)] [] := by
  intro n
  induction n with
  | zero =>
    intro a4 a5 a6 a7 hf
    have hf : (none : Option Int32) = some r := hf
    cases hf
  | succ n ih =>
    intro a4 a5 a6 a7 hf
    rw [f_X11_readAs_13] at hf
    refine x_iload X dX11_readAs_13 4 rfl ?_
    refine x_aload_n X dX11_readAs_15 0 rfl rfl ?_
    refine x_getsj X (i := 0) 1 fl_X11_14_12 (sdX_0 hω) (ks_0 _) rfl (j := 1) rfl dX11_readAs_16 ?_
    refine x_getsj X (i := 1) 1 fl_X11_77_4 (sdX_1 hω) (ks_1 _) rfl (j := 2) rfl dX11_readAs_19 ?_
    refine x_geti X (i := 2) fl_X11_179_3 (sdX_2 hω) (ks_2 _) rfl dX11_readAs_22 ?_
    refine x_icmp_ge X 64 dX11_readAs_25 (by decide) (fun c8 => ?_) (fun c8 => ?_)
    · replace hf := (if_pos c8).symm.trans hf
      refine x_iload_n X dX11_readAs_28 1 rfl rfl ?_
      refine x_aload_n X dX11_readAs_29 0 rfl rfl ?_
      refine x_getsj X (i := 0) 1 fl_X11_14_12 (sdX_0 hω) (ks_0 _) rfl (j := 1) rfl dX11_readAs_30 ?_
      refine x_getsj X (i := 1) 1 fl_X11_77_4 (sdX_1 hω) (ks_1 _) rfl (j := 2) rfl dX11_readAs_33 ?_
      refine x_iload X dX11_readAs_36 4 rfl ?_
      obtain ⟨r9, g10, hf⟩ := bnr_some hf
      refine c_X11_91 X hω g10 (sdX_2 hω) (ks_2 _) (hR := ⟨Nat.le_of_ble_eq_true rfl, Nat.le_of_ble_eq_true rfl⟩) ⟨Nat.zero_le _, Nat.zero_le _⟩ (Nat.le_of_ble_eq_true rfl) dX11_readAs_38 ?_
      obtain ⟨r11, g12, hf⟩ := bnr_some hf
      refine c_X11_282 X hω g12 (hR := ⟨Nat.le_of_ble_eq_true rfl, Nat.le_of_ble_eq_true rfl⟩) ⟨Nat.zero_le _, Nat.zero_le _⟩ (Nat.le_of_ble_eq_true rfl) dX11_readAs_41 ?_
      refine x_istore X [(5, .int r11), (0, .ref (q 0)), (1, .int a4), (2, .int a5), (3, .int a6), (4, .int a7)] dX11_readAs_44 (Nat.le_of_ble_eq_true rfl) rfl ?_
      refine x_iload X dX11_readAs_46 0 rfl ?_
      refine x_iload_n X dX11_readAs_48 4 rfl rfl ?_
      refine x_icmp_ge X 58 dX11_readAs_49 (by decide) (fun c13 => ?_) (fun c13 => ?_)
      · replace hf := (if_pos c13).symm.trans hf
        refine x_iload X dX11_readAs_52 0 rfl ?_
        refine x_istore_n X [(3, .int r11), (5, .int r11), (0, .ref (q 0)), (1, .int a4), (2, .int a5), (4, .int a7)] dX11_readAs_54 rfl (Nat.le_of_ble_eq_true rfl) rfl ?_
        refine x_iload X dX11_readAs_55 5 rfl ?_
        refine x_istore_n X [(2, .int a7), (3, .int r11), (5, .int r11), (0, .ref (q 0)), (1, .int a4), (4, .int a7)] dX11_readAs_57 rfl (Nat.le_of_ble_eq_true rfl) rfl ?_
        refine x_lv [3, 4, 0, 1, 5] rfl ?_
        exact k_X11_readAs_58 hω X R _ ih _ _ _ _ hf
      · replace hf := (if_neg c13).symm.trans hf
        refine x_lv [1, 2, 3, 4, 5] rfl ?_
        exact k_X11_readAs_58 hω X R _ ih _ _ _ _ hf
    · replace hf := (if_neg c8).symm.trans hf
      refine x_iload_n X dX11_readAs_64 2 rfl rfl ?_
      exact x_retRI X R hf dX11_readAs_65
set_option maxRecDepth 100000 in
set_option maxHeartbeats 4000000 in
theorem k_X11_readAs {ω : XO} (hω : ω.2.2.2.1 = 1) {L : List Nat} {q : Nat → Nat} {h : hp} {p0 : Int32} {r : Int32} (hf : f_X11_readAs h p0 = some r) : XM ω yX11_readAs cX11_readAs 6 (some .int) rm_X11_readAs L q h [.ref (q 0), .int p0] (some (.int r)) h := by
  refine XM_intro [(0, .ref (q 0)), (1, .int p0)] "SignalBlind" (by decide) rfl rfl (Nat.le_of_ble_eq_true rfl) (fun κ X R => ?_)
  unfold f_X11_readAs at hf
  refine x_bipush X (v := -5) dX11_readAs_0 (by decide) ?_
  refine x_istore_n X [(2, .int (-5 : Int32)), (0, .ref (q 0)), (1, .int p0)] dX11_readAs_2 rfl (Nat.le_of_ble_eq_true rfl) rfl ?_
  refine x_aload_n X dX11_readAs_3 1 rfl rfl ?_
  obtain ⟨r1, g2, hf⟩ := bnr_some hf
  refine c_X11_161 X hω g2 (hR := ⟨Nat.le_of_ble_eq_true rfl, Nat.le_of_ble_eq_true rfl⟩) ⟨Nat.zero_le _, Nat.zero_le _⟩ (Nat.le_of_ble_eq_true rfl) dX11_readAs_4 ?_
  refine x_iconst X (v := 1) dX11_readAs_7 (by decide) ?_
  refine x_iadd X dX11_readAs_8 ?_
  obtain ⟨v3, ev3, hf⟩ := nm_some hf
  refine x_nmI ev3 ?_
  refine x_istore_n X [(3, .int v3), (2, .int (-5 : Int32)), (0, .ref (q 0)), (1, .int p0)] dX11_readAs_9 rfl (Nat.le_of_ble_eq_true rfl) rfl ?_
  refine x_iconst X (v := 0) dX11_readAs_10 (by decide) ?_
  refine x_istore X [(4, .int (0 : Int32)), (3, .int v3), (2, .int (-5 : Int32)), (0, .ref (q 0)), (1, .int p0)] dX11_readAs_11 (Nat.le_of_ble_eq_true rfl) rfl ?_
  refine x_lv [3, 4, 2, 1, 0] rfl ?_
  exact k_X11_readAs_13 hω X R _ _ _ _ _ hf
theorem mt_X11_readAs : MT yX11_readAs cX11_readAs 6 (some .int) "SignalBlind" 1 := ⟨(mT_2 189 rfl rfl), (mTp (q := (yX11_readAs, 12)) (by decide +kernel) rfl), (mT_1 1 rfl rfl), (mT_2 190 rfl rfl), by decide⟩
theorem c_X11_140 {ω : XO} {rm : Room} {nL : Nat} {κ : XK} {cc : ByteArray} (X : XC ω rm nL κ cc "SignalBlind") (hω : ω.2.2.2.1 = 1) {L : List Nat} {q : Nat → Nat} {h : hp} {cells slots pc : Nat} {lv : List (Nat × Value)} {rest : List Value} {p0 : Int32} {r : Int32} (hf : f_X11_readAs h p0 = some r) (hR : rm_X11_readAs.frames + 1 ≤ rm.frames ∧ 8 + (6 + 11) + rm_X11_readAs.locals ≤ rm.locals) (hcs : cells ≤ rm.cells ∧ slots ≤ rm.slots) (hroom : (rest.map fun v => v.category).sum ≤ 8) (hd : decode cc pc = .ok (.invokevirtual 140, 3)) (kk : XG ω rm nL κ L q h cells slots (pc + 3) lv (.int r :: rest)) : XG ω rm nL κ L q h cells slots pc lv (.int p0 :: .ref (q 0) :: rest) := x_callV X [.int p0] rest (k_X11_readAs hω hf) mt_X11_readAs (mT_2 187 rfl rfl) hR ⟨rfl, rfl⟩ hcs (sdX_0 hω) (ks_0 _) (by decide) rfl rfl hroom hd kk

abbrev rm_X11_comes : Room := { frames := 4, cells := 0, slots := 0, locals := 102 }
def f_X11_comes_42 (h : hp) (a12 : Int32) : Option (hp × Int32) := (ckZ a12
 (some (h, a12)))
def f_X11_comes (h : hp) (p0 : Int32) (p1 : Int32) (p2 : Int32) : Option (hp × Int32) := (chk p0 5
 (onO (aR h 4 (p0).toNatClampNeg) none fun i2 =>
 (ckS h i2
 (bnr (f_X2_get h 2 p1) fun r4 =>
 (bnd (f_X11_shown h p0 (hI h i2 2) p2 r4) fun h6 r7 =>
 (bnr (f_X11_readAs h6 r7) fun r9 =>
 (if r9 = p1 then
 (f_X11_comes_42 h6 (1 : Int32))
 else
 (f_X11_comes_42 h6 (0 : Int32)))))))))
set_option maxRecDepth 100000 in
set_option maxHeartbeats 4000000 in
theorem k_X11_comes_42 {ω : XO} (hω : ω.2.2.2.1 = 1) {κ : XK} (X : XC ω rm_X11_comes 4 κ cX11_comes "SignalBlind") {L : List Nat} {q : Nat → Nat} {h' : hp} {r : Int32} (R : XRet ω rm_X11_comes κ (some .boolean) L q h' (some (.int r))) : ∀ (h : hp) (a12 : Int32), f_X11_comes_42 h a12 = some (h', r) → XG ω rm_X11_comes 4 κ L q h 0 0 42 [] [.int a12] := by
  intro h a12 hf
  unfold f_X11_comes_42 at hf
  obtain ⟨z13, hf⟩ := ckZ_some hf
  exact x_retSZ X R z13 hf dX11_comes_42
set_option maxRecDepth 100000 in
set_option maxHeartbeats 4000000 in
theorem k_X11_comes {ω : XO} (hω : ω.2.2.2.1 = 1) {L : List Nat} {q : Nat → Nat} {h h' : hp} {p0 : Int32} {p1 : Int32} {p2 : Int32} {r : Int32} (hf : f_X11_comes h p0 p1 p2 = some (h', r)) : XM ω yX11_comes cX11_comes 4 (some .boolean) rm_X11_comes L q h [.ref (q 0), .int p0, .int p1, .int p2] (some (.int r)) h' := by
  refine XM_intro [(0, .ref (q 0)), (1, .int p0), (2, .int p1), (3, .int p2)] "SignalBlind" (by decide) rfl rfl (Nat.le_of_ble_eq_true rfl) (fun κ X R => ?_)
  unfold f_X11_comes at hf
  refine x_aload_n X dX11_comes_0 0 rfl rfl ?_
  refine x_aload_n X dX11_comes_1 0 rfl rfl ?_
  refine x_iload_n X dX11_comes_2 1 rfl rfl ?_
  refine x_aload_n X dX11_comes_3 0 rfl rfl ?_
  refine x_getsj X (i := 0) 1 fl_X11_14_12 (sdX_0 hω) (ks_0 _) rfl (j := 1) rfl dX11_comes_4 ?_
  refine x_getsj X (i := 1) 3 fl_X11_115_4 (sdX_1 hω) (ks_1 _) rfl (j := 4) rfl dX11_comes_7 ?_
  refine x_iload_n X dX11_comes_10 1 rfl rfl ?_
  obtain ⟨z1, hf⟩ := chk_some hf
  refine x_aald X (i := 4) (n := 5) (e := 4) (by decide) (sdX_4 hω) (ks_4 _) z1 dX11_comes_11 ?_
  obtain ⟨i2, ei2, hf⟩ := onO_some hf
  refine x_nn ei2 ?_
  obtain ⟨b3, hf⟩ := ckS_some hf
  refine x_getS_X11_124 X hω b3 dX11_comes_12 ?_
  refine x_iload_n X dX11_comes_15 3 rfl rfl ?_
  refine x_aload_n X dX11_comes_16 0 rfl rfl ?_
  refine x_getsj X (i := 0) 1 fl_X11_14_12 (sdX_0 hω) (ks_0 _) rfl (j := 1) rfl dX11_comes_17 ?_
  refine x_getsj X (i := 1) 1 fl_X11_77_4 (sdX_1 hω) (ks_1 _) rfl (j := 2) rfl dX11_comes_20 ?_
  refine x_iload_n X dX11_comes_23 2 rfl rfl ?_
  obtain ⟨r4, g5, hf⟩ := bnr_some hf
  refine c_X11_91 X hω g5 (sdX_2 hω) (ks_2 _) (hR := ⟨Nat.le_of_ble_eq_true rfl, Nat.le_of_ble_eq_true rfl⟩) ⟨Nat.zero_le _, Nat.zero_le _⟩ (Nat.le_of_ble_eq_true rfl) dX11_comes_24 ?_
  obtain ⟨h6, r7, g8, hf⟩ := bnd_some hf
  refine c_X11_209 X hω g8 (hR := ⟨Nat.le_of_ble_eq_true rfl, Nat.le_of_ble_eq_true rfl⟩) ⟨Nat.zero_le _, Nat.zero_le _⟩ (Nat.le_of_ble_eq_true rfl) dX11_comes_27 ?_
  obtain ⟨r9, g10, hf⟩ := bnr_some hf
  refine c_X11_140 X hω g10 (hR := ⟨Nat.le_of_ble_eq_true rfl, Nat.le_of_ble_eq_true rfl⟩) ⟨Nat.zero_le _, Nat.zero_le _⟩ (Nat.le_of_ble_eq_true rfl) dX11_comes_30 ?_
  refine x_iload_n X dX11_comes_33 2 rfl rfl ?_
  refine x_icmp_ne X 41 dX11_comes_34 (by decide) (fun c11 => ?_) (fun c11 => ?_)
  · replace hf := (if_pos c11).symm.trans hf
    refine x_iconst X (v := 1) dX11_comes_37 (by decide) ?_
    refine x_goto X 42 dX11_comes_38 (by decide) ?_
    refine x_lv [] rfl ?_
    exact k_X11_comes_42 hω X R h6 _ hf
  · replace hf := (if_neg c11).symm.trans hf
    refine x_iconst X (v := 0) dX11_comes_41 (by decide) ?_
    refine x_lv [] rfl ?_
    exact k_X11_comes_42 hω X R h6 _ hf
theorem mt_X11_comes : MT yX11_comes cX11_comes 4 (some .boolean) "SignalBlind" 3 := ⟨(mT_2 128 rfl rfl), (mTp (q := (yX11_comes, 12)) (by decide +kernel) rfl), (mT_1 1 rfl rfl), (mT_2 129 rfl rfl), by decide⟩
theorem c_X11_175 {ω : XO} {rm : Room} {nL : Nat} {κ : XK} {cc : ByteArray} (X : XC ω rm nL κ cc "SignalBlind") (hω : ω.2.2.2.1 = 1) {L : List Nat} {q : Nat → Nat} {h h' : hp} {cells slots pc : Nat} {lv : List (Nat × Value)} {rest : List Value} {p0 : Int32} {p1 : Int32} {p2 : Int32} {r : Int32} (hf : f_X11_comes h p0 p1 p2 = some (h', r)) (hR : rm_X11_comes.frames + 1 ≤ rm.frames ∧ 8 + (4 + 11) + rm_X11_comes.locals ≤ rm.locals) (hcs : cells ≤ rm.cells ∧ slots ≤ rm.slots) (hroom : (rest.map fun v => v.category).sum ≤ 8) (hd : decode cc pc = .ok (.invokevirtual 175, 3)) (kk : XG ω rm nL κ L q h' cells slots (pc + 3) lv (.int r :: rest)) : XG ω rm nL κ L q h cells slots pc lv (.int p2 :: .int p1 :: .int p0 :: .ref (q 0) :: rest) := x_callV X [.int p0, .int p1, .int p2] rest (k_X11_comes hω hf) mt_X11_comes (mT_2 126 rfl rfl) hR ⟨rfl, rfl⟩ hcs (sdX_0 hω) (ks_0 _) (by decide) rfl rfl hroom hd kk

abbrev rm_X11_wordsThrough : Room := { frames := 5, cells := 0, slots := 0, locals := 125 }
def f_X11_wordsThrough_40 (k4 : hp → Int32 → Int32 → Int32 → Option (hp × Int32)) (h : hp) (a9 : Int32) (a10 : Int32) (a11 : Int32) : Option (hp × Int32) := (nm (a11 + (1 : Int32)) fun v12 =>
 (k4 h a9 a10 v12))
def f_X11_wordsThrough_4 : Nat → hp → Int32 → Int32 → Int32 → Option (hp × Int32)
  | 0, _, _, _, _ => none
  | n + 1, h, a1, a2, a3 => (if a3 < (hI h 2 1) then
 (bnd (f_X11_comes h a1 a3 (hI h 1 5)) fun h5 r6 =>
 (if r6 = 0 then
 (f_X11_wordsThrough_40 (f_X11_wordsThrough_4 n) h5 a1 a2 a3)
 else
 (nm (a2 ||| ((1 : Int32) <<< (a3 &&& 31))) fun v13 =>
 (f_X11_wordsThrough_40 (f_X11_wordsThrough_4 n) h5 a1 v13 a3))))
 else
 (some (h, a2)))
def f_X11_wordsThrough (h : hp) (p0 : Int32) : Option (hp × Int32) := (f_X11_wordsThrough_4 2000 h p0 (0 : Int32) (0 : Int32))
set_option maxRecDepth 100000 in
set_option maxHeartbeats 4000000 in
theorem k_X11_wordsThrough_40 {ω : XO} (hω : ω.2.2.2.1 = 1) {κ : XK} (X : XC ω rm_X11_wordsThrough 4 κ cX11_wordsThrough "SignalBlind") {L : List Nat} {q : Nat → Nat} {h' : hp} {r : Int32} (R : XRet ω rm_X11_wordsThrough κ (some .int) L q h' (some (.int r))) (k4 : hp → Int32 → Int32 → Int32 → Option (hp × Int32)) (hk4 : ∀ (h : hp) (a1 : Int32) (a2 : Int32) (a3 : Int32), k4 h a1 a2 a3 = some (h', r) → XG ω rm_X11_wordsThrough 4 κ L q h 0 0 4 [(0, .ref (q 0)), (1, .int a1), (2, .int a2), (3, .int a3)] []) : ∀ (h : hp) (a9 : Int32) (a10 : Int32) (a11 : Int32), f_X11_wordsThrough_40 k4 h a9 a10 a11 = some (h', r) → XG ω rm_X11_wordsThrough 4 κ L q h 0 0 40 [(0, .ref (q 0)), (1, .int a9), (2, .int a10), (3, .int a11)] [] := by
  intro h a9 a10 a11 hf
  unfold f_X11_wordsThrough_40 at hf
  obtain ⟨v12, ev12, hf⟩ := nm_some hf
  refine x_iincN X (v := 1) ev12 [(3, .int v12), (0, .ref (q 0)), (1, .int a9), (2, .int a10)] dX11_wordsThrough_40 3 rfl (by decide) (Nat.le_of_ble_eq_true rfl) rfl ?_
  refine x_goto X 4 dX11_wordsThrough_43 (by decide) ?_
  refine x_lv [1, 2, 3, 0] rfl ?_
  exact hk4 h _ _ _ hf
set_option maxRecDepth 100000 in
set_option maxHeartbeats 4000000 in
theorem k_X11_wordsThrough_4 {ω : XO} (hω : ω.2.2.2.1 = 1) {κ : XK} (X : XC ω rm_X11_wordsThrough 4 κ cX11_wordsThrough "SignalBlind") {L : List Nat} {q : Nat → Nat} {h' : hp} {r : Int32} (R : XRet ω rm_X11_wordsThrough κ (some .int) L q h' (some (.int r))) : ∀ (n : Nat) (h : hp) (a1 : Int32) (a2 : Int32) (a3 : Int32), f_X11_wordsThrough_4 n h a1 a2 a3 = some (h', r) → XG ω rm_X11_wordsThrough 4 κ L q h 0 0 4 [(0, .ref (q 0)), (1, .int a1), (2, .int a2), (3, .int a3)] [] := by
  intro n
  induction n with
  | zero =>
    intro h a1 a2 a3 hf
    have hf : (none : Option (hp × Int32)) = some (h', r) := hf
    cases hf
  | succ n ih =>
    intro h a1 a2 a3 hf
    rw [f_X11_wordsThrough_4] at hf
    refine x_iload_n X dX11_wordsThrough_4 3 rfl rfl ?_
    refine x_aload_n X dX11_wordsThrough_5 0 rfl rfl ?_
    refine x_getsj X (i := 0) 1 fl_X11_14_12 (sdX_0 hω) (ks_0 _) rfl (j := 1) rfl dX11_wordsThrough_6 ?_
    refine x_getsj X (i := 1) 1 fl_X11_77_4 (sdX_1 hω) (ks_1 _) rfl (j := 2) rfl dX11_wordsThrough_9 ?_
    refine x_geti X (i := 2) fl_X11_179_3 (sdX_2 hω) (ks_2 _) rfl dX11_wordsThrough_12 ?_
    refine x_icmp_ge X 46 dX11_wordsThrough_15 (by decide) (fun c4 => ?_) (fun c4 => ?_)
    · replace hf := (if_pos c4).symm.trans hf
      refine x_aload_n X dX11_wordsThrough_18 0 rfl rfl ?_
      refine x_iload_n X dX11_wordsThrough_19 1 rfl rfl ?_
      refine x_iload_n X dX11_wordsThrough_20 3 rfl rfl ?_
      refine x_aload_n X dX11_wordsThrough_21 0 rfl rfl ?_
      refine x_getsj X (i := 0) 1 fl_X11_14_12 (sdX_0 hω) (ks_0 _) rfl (j := 1) rfl dX11_wordsThrough_22 ?_
      refine x_geti X (i := 1) fl_X11_158_4 (sdX_1 hω) (ks_1 _) rfl dX11_wordsThrough_25 ?_
      obtain ⟨h5, r6, g7, hf⟩ := bnd_some hf
      refine c_X11_175 X hω g7 (hR := ⟨Nat.le_of_ble_eq_true rfl, Nat.le_of_ble_eq_true rfl⟩) ⟨Nat.zero_le _, Nat.zero_le _⟩ (Nat.le_of_ble_eq_true rfl) dX11_wordsThrough_28 ?_
      refine x_if_eq X 40 dX11_wordsThrough_31 (by decide) (fun c8 => ?_) (fun c8 => ?_)
      · replace hf := (if_pos c8).symm.trans hf
        refine x_lv [0, 1, 2, 3] rfl ?_
        exact k_X11_wordsThrough_40 hω X R _ ih h5 _ _ _ hf
      · replace hf := (if_neg c8).symm.trans hf
        refine x_iload_n X dX11_wordsThrough_34 2 rfl rfl ?_
        refine x_iconst X (v := 1) dX11_wordsThrough_35 (by decide) ?_
        refine x_iload_n X dX11_wordsThrough_36 3 rfl rfl ?_
        refine x_ishl X dX11_wordsThrough_37 ?_
        refine x_ior X dX11_wordsThrough_38 ?_
        obtain ⟨v13, ev13, hf⟩ := nm_some hf
        refine x_nmI ev13 ?_
        refine x_istore_n X [(2, .int v13), (0, .ref (q 0)), (1, .int a1), (3, .int a3)] dX11_wordsThrough_39 rfl (Nat.le_of_ble_eq_true rfl) rfl ?_
        refine x_lv [1, 2, 0, 3] rfl ?_
        exact k_X11_wordsThrough_40 hω X R _ ih h5 _ _ _ hf
    · replace hf := (if_neg c4).symm.trans hf
      refine x_iload_n X dX11_wordsThrough_46 2 rfl rfl ?_
      exact x_retSI X R hf dX11_wordsThrough_47
set_option maxRecDepth 100000 in
set_option maxHeartbeats 4000000 in
theorem k_X11_wordsThrough {ω : XO} (hω : ω.2.2.2.1 = 1) {L : List Nat} {q : Nat → Nat} {h h' : hp} {p0 : Int32} {r : Int32} (hf : f_X11_wordsThrough h p0 = some (h', r)) : XM ω yX11_wordsThrough cX11_wordsThrough 4 (some .int) rm_X11_wordsThrough L q h [.ref (q 0), .int p0] (some (.int r)) h' := by
  refine XM_intro [(0, .ref (q 0)), (1, .int p0)] "SignalBlind" (by decide) rfl rfl (Nat.le_of_ble_eq_true rfl) (fun κ X R => ?_)
  unfold f_X11_wordsThrough at hf
  refine x_iconst X (v := 0) dX11_wordsThrough_0 (by decide) ?_
  refine x_istore_n X [(2, .int (0 : Int32)), (0, .ref (q 0)), (1, .int p0)] dX11_wordsThrough_1 rfl (Nat.le_of_ble_eq_true rfl) rfl ?_
  refine x_iconst X (v := 0) dX11_wordsThrough_2 (by decide) ?_
  refine x_istore_n X [(3, .int (0 : Int32)), (2, .int (0 : Int32)), (0, .ref (q 0)), (1, .int p0)] dX11_wordsThrough_3 rfl (Nat.le_of_ble_eq_true rfl) rfl ?_
  refine x_lv [2, 3, 1, 0] rfl ?_
  exact k_X11_wordsThrough_4 hω X R _ h _ _ _ hf
theorem mt_X11_wordsThrough : MT yX11_wordsThrough cX11_wordsThrough 4 (some .int) "SignalBlind" 1 := ⟨(mT_2 124 rfl rfl), (mTp (q := (yX11_wordsThrough, 12)) (by decide +kernel) rfl), (mT_1 1 rfl rfl), (mT_2 125 rfl rfl), by decide⟩
theorem c_X11_130 {ω : XO} {rm : Room} {nL : Nat} {κ : XK} {cc : ByteArray} (X : XC ω rm nL κ cc "SignalBlind") (hω : ω.2.2.2.1 = 1) {L : List Nat} {q : Nat → Nat} {h h' : hp} {cells slots pc : Nat} {lv : List (Nat × Value)} {rest : List Value} {p0 : Int32} {r : Int32} (hf : f_X11_wordsThrough h p0 = some (h', r)) (hR : rm_X11_wordsThrough.frames + 1 ≤ rm.frames ∧ 8 + (4 + 11) + rm_X11_wordsThrough.locals ≤ rm.locals) (hcs : cells ≤ rm.cells ∧ slots ≤ rm.slots) (hroom : (rest.map fun v => v.category).sum ≤ 8) (hd : decode cc pc = .ok (.invokevirtual 130, 3)) (kk : XG ω rm nL κ L q h' cells slots (pc + 3) lv (.int r :: rest)) : XG ω rm nL κ L q h cells slots pc lv (.int p0 :: .ref (q 0) :: rest) := x_callV X [.int p0] rest (k_X11_wordsThrough hω hf) mt_X11_wordsThrough (mT_2 122 rfl rfl) hR ⟨rfl, rfl⟩ hcs (sdX_0 hω) (ks_0 _) (by decide) rfl rfl hroom hd kk

abbrev rm_X11_shownNow : Room := { frames := 4, cells := 0, slots := 0, locals := 102 }
def f_X11_shownNow (h : hp) (p0 : Int32) (p1 : Int32) : Option (hp × Int32) := (chk p0 5
 (onO (aR h 4 (p0).toNatClampNeg) none fun i2 =>
 (ckS h i2
 (bnd (f_X11_shown h p0 (hI h i2 2) (hI h 1 5) p1) fun h4 r5 =>
 (some (h4, r5))))))
set_option maxRecDepth 100000 in
set_option maxHeartbeats 4000000 in
theorem k_X11_shownNow {ω : XO} (hω : ω.2.2.2.1 = 1) {L : List Nat} {q : Nat → Nat} {h h' : hp} {p0 : Int32} {p1 : Int32} {r : Int32} (hf : f_X11_shownNow h p0 p1 = some (h', r)) : XM ω yX11_shownNow cX11_shownNow 3 (some .int) rm_X11_shownNow L q h [.ref (q 0), .int p0, .int p1] (some (.int r)) h' := by
  refine XM_intro [(0, .ref (q 0)), (1, .int p0), (2, .int p1)] "SignalBlind" (by decide) rfl rfl (Nat.le_of_ble_eq_true rfl) (fun κ X R => ?_)
  unfold f_X11_shownNow at hf
  refine x_aload_n X dX11_shownNow_0 0 rfl rfl ?_
  refine x_iload_n X dX11_shownNow_1 1 rfl rfl ?_
  refine x_aload_n X dX11_shownNow_2 0 rfl rfl ?_
  refine x_getsj X (i := 0) 1 fl_X11_14_12 (sdX_0 hω) (ks_0 _) rfl (j := 1) rfl dX11_shownNow_3 ?_
  refine x_getsj X (i := 1) 3 fl_X11_115_4 (sdX_1 hω) (ks_1 _) rfl (j := 4) rfl dX11_shownNow_6 ?_
  refine x_iload_n X dX11_shownNow_9 1 rfl rfl ?_
  obtain ⟨z1, hf⟩ := chk_some hf
  refine x_aald X (i := 4) (n := 5) (e := 4) (by decide) (sdX_4 hω) (ks_4 _) z1 dX11_shownNow_10 ?_
  obtain ⟨i2, ei2, hf⟩ := onO_some hf
  refine x_nn ei2 ?_
  obtain ⟨b3, hf⟩ := ckS_some hf
  refine x_getS_X11_124 X hω b3 dX11_shownNow_11 ?_
  refine x_aload_n X dX11_shownNow_14 0 rfl rfl ?_
  refine x_getsj X (i := 0) 1 fl_X11_14_12 (sdX_0 hω) (ks_0 _) rfl (j := 1) rfl dX11_shownNow_15 ?_
  refine x_geti X (i := 1) fl_X11_158_4 (sdX_1 hω) (ks_1 _) rfl dX11_shownNow_18 ?_
  refine x_iload_n X dX11_shownNow_21 2 rfl rfl ?_
  obtain ⟨h4, r5, g6, hf⟩ := bnd_some hf
  refine c_X11_209 X hω g6 (hR := ⟨Nat.le_of_ble_eq_true rfl, Nat.le_of_ble_eq_true rfl⟩) ⟨Nat.zero_le _, Nat.zero_le _⟩ (Nat.le_of_ble_eq_true rfl) dX11_shownNow_22 ?_
  exact x_retSI X R hf dX11_shownNow_25
theorem mt_X11_shownNow : MT yX11_shownNow cX11_shownNow 3 (some .int) "SignalBlind" 2 := ⟨(mT_2 204 rfl rfl), (mTp (q := (yX11_shownNow, 12)) (by decide +kernel) rfl), (mT_1 1 rfl rfl), (mT_2 205 rfl rfl), by decide⟩
theorem c_X11_136 {ω : XO} {rm : Room} {nL : Nat} {κ : XK} {cc : ByteArray} (X : XC ω rm nL κ cc "SignalBlind") (hω : ω.2.2.2.1 = 1) {L : List Nat} {q : Nat → Nat} {h h' : hp} {cells slots pc : Nat} {lv : List (Nat × Value)} {rest : List Value} {p0 : Int32} {p1 : Int32} {r : Int32} (hf : f_X11_shownNow h p0 p1 = some (h', r)) (hR : rm_X11_shownNow.frames + 1 ≤ rm.frames ∧ 8 + (3 + 11) + rm_X11_shownNow.locals ≤ rm.locals) (hcs : cells ≤ rm.cells ∧ slots ≤ rm.slots) (hroom : (rest.map fun v => v.category).sum ≤ 8) (hd : decode cc pc = .ok (.invokevirtual 136, 3)) (kk : XG ω rm nL κ L q h' cells slots (pc + 3) lv (.int r :: rest)) : XG ω rm nL κ L q h cells slots pc lv (.int p1 :: .int p0 :: .ref (q 0) :: rest) := x_callV X [.int p0, .int p1] rest (k_X11_shownNow hω hf) mt_X11_shownNow (mT_2 202 rfl rfl) hR ⟨rfl, rfl⟩ hcs (sdX_0 hω) (ks_0 _) (by decide) rfl rfl hroom hd kk

abbrev rm_X11_unlikeSigns : Room := { frames := 5, cells := 0, slots := 0, locals := 124 }
def f_X11_unlikeSigns_68 : Nat → hp → Int32 → Int32 → Option (hp × Int32)
  | 0, _, _, _ => none
  | n + 1, h, a19, a20 => (if a20 < (16 : Int32) then
 (chk a20 16
 (bnr (f_J13_bitCount_95d88 h (aL h 36 (a20).toNatClampNeg)) fun r23 =>
 (nm (a19 + r23) fun v25 =>
 (nm (a20 + (1 : Int32)) fun v26 =>
 ((f_X11_unlikeSigns_68 n) h v25 v26)))))
 else
 (some (h, a19)))
def f_X11_unlikeSigns_26 : Nat → hp → Int32 → Int32 → Option (hp × Int32)
  | 0, _, _, _ => none
  | n + 1, h, a7, a8 => (if a8 < (1024 : Int32) then
 (bnd (f_X11_shownNow h a7 a8) fun h10 r11 =>
 (nz (64 : Int32)
 (chk (r11 / (64 : Int32)) 16
 (nz (64 : Int32)
 (chk (r11 / (64 : Int32)) 16
 (nm (tL h10 36 ((r11 / (64 : Int32))).toNatClampNeg ((aL h10 36 ((r11 / (64 : Int32))).toNatClampNeg) ||| ((1 : Int64) <<< (((r11 - r11 / (64 : Int32) * (64 : Int32))).toInt64 &&& 63)))) fun h17 =>
 (nm (a8 + (1 : Int32)) fun v18 =>
 ((f_X11_unlikeSigns_26 n) h17 a7 v18))))))))
 else
 (f_X11_unlikeSigns_68 2000 h (0 : Int32) (0 : Int32)))
def f_X11_unlikeSigns_2 : Nat → hp → Int32 → Int32 → Option (hp × Int32)
  | 0, _, _, _ => none
  | n + 1, h, a1, a2 => (if a2 < (16 : Int32) then
 (chk a2 16
 (nm (tL h 36 (a2).toNatClampNeg (0 : Int64)) fun h5 =>
 (nm (a2 + (1 : Int32)) fun v6 =>
 ((f_X11_unlikeSigns_2 n) h5 a1 v6))))
 else
 (f_X11_unlikeSigns_26 2000 h a1 (0 : Int32)))
def f_X11_unlikeSigns (h : hp) (p0 : Int32) : Option (hp × Int32) := (f_X11_unlikeSigns_2 2000 h p0 (0 : Int32))
set_option maxRecDepth 100000 in
set_option maxHeartbeats 4000000 in
theorem k_X11_unlikeSigns_68 {ω : XO} (hω : ω.2.2.2.1 = 1) {κ : XK} (X : XC ω rm_X11_unlikeSigns 4 κ cX11_unlikeSigns "SignalBlind") {L : List Nat} {q : Nat → Nat} {h' : hp} {r : Int32} (R : XRet ω rm_X11_unlikeSigns κ (some .int) L q h' (some (.int r))) : ∀ (n : Nat) (h : hp) (a19 : Int32) (a20 : Int32), f_X11_unlikeSigns_68 n h a19 a20 = some (h', r) → XG ω rm_X11_unlikeSigns 4 κ L q h 0 0 68 [(0, .ref (q 0)), (2, .int a19), (3, .int a20)] [] := by
  intro n
  induction n with
  | zero =>
    intro h a19 a20 hf
    have hf : (none : Option (hp × Int32)) = some (h', r) := hf
    cases hf
  | succ n ih =>
    intro h a19 a20 hf
    rw [f_X11_unlikeSigns_68] at hf
    refine x_iload_n X dX11_unlikeSigns_68 2 rfl rfl ?_
    refine x_aload_n X dX11_unlikeSigns_69 0 rfl rfl ?_
    refine x_getsj X (i := 0) 36 fl_X11_62_12 (sdX_0 hω) (ks_0 _) rfl (j := 36) rfl dX11_unlikeSigns_70 ?_
    refine x_alen X (i := 36) (n := 16) (e := 3) (v := 16) (by decide) (sdX_36 hω) (ks_36 _) (by decide) dX11_unlikeSigns_73 ?_
    refine x_icmp_ge X 95 dX11_unlikeSigns_74 (by decide) (fun c21 => ?_) (fun c21 => ?_)
    · replace hf := (if_pos c21).symm.trans hf
      refine x_iload_n X dX11_unlikeSigns_77 1 rfl rfl ?_
      refine x_aload_n X dX11_unlikeSigns_78 0 rfl rfl ?_
      refine x_getsj X (i := 0) 36 fl_X11_62_12 (sdX_0 hω) (ks_0 _) rfl (j := 36) rfl dX11_unlikeSigns_79 ?_
      refine x_iload_n X dX11_unlikeSigns_82 2 rfl rfl ?_
      obtain ⟨z22, hf⟩ := chk_some hf
      refine x_lald X (i := 36) (n := 16) (sdX_36 hω) (ks_36 _) z22 dX11_unlikeSigns_83 ?_
      obtain ⟨r23, g24, hf⟩ := bnr_some hf
      refine c_X11_285 X hω g24 (hR := ⟨Nat.le_of_ble_eq_true rfl, Nat.le_of_ble_eq_true rfl⟩) ⟨Nat.zero_le _, Nat.zero_le _⟩ (Nat.le_of_ble_eq_true rfl) dX11_unlikeSigns_84 ?_
      refine x_iadd X dX11_unlikeSigns_87 ?_
      obtain ⟨v25, ev25, hf⟩ := nm_some hf
      refine x_nmI ev25 ?_
      refine x_istore_n X [(2, .int v25), (0, .ref (q 0)), (3, .int a20)] dX11_unlikeSigns_88 rfl (Nat.le_of_ble_eq_true rfl) rfl ?_
      obtain ⟨v26, ev26, hf⟩ := nm_some hf
      refine x_iincN X (v := 1) ev26 [(3, .int v26), (2, .int v25), (0, .ref (q 0))] dX11_unlikeSigns_89 2 rfl (by decide) (Nat.le_of_ble_eq_true rfl) rfl ?_
      refine x_goto X 68 dX11_unlikeSigns_92 (by decide) ?_
      refine x_lv [2, 1, 0] rfl ?_
      exact ih h _ _ hf
    · replace hf := (if_neg c21).symm.trans hf
      refine x_iload_n X dX11_unlikeSigns_95 1 rfl rfl ?_
      exact x_retSI X R hf dX11_unlikeSigns_96
set_option maxRecDepth 100000 in
set_option maxHeartbeats 4000000 in
theorem k_X11_unlikeSigns_26 {ω : XO} (hω : ω.2.2.2.1 = 1) {κ : XK} (X : XC ω rm_X11_unlikeSigns 4 κ cX11_unlikeSigns "SignalBlind") {L : List Nat} {q : Nat → Nat} {h' : hp} {r : Int32} (R : XRet ω rm_X11_unlikeSigns κ (some .int) L q h' (some (.int r))) : ∀ (n : Nat) (h : hp) (a7 : Int32) (a8 : Int32), f_X11_unlikeSigns_26 n h a7 a8 = some (h', r) → XG ω rm_X11_unlikeSigns 4 κ L q h 0 0 26 [(0, .ref (q 0)), (1, .int a7), (2, .int a8)] [] := by
  intro n
  induction n with
  | zero =>
    intro h a7 a8 hf
    have hf : (none : Option (hp × Int32)) = some (h', r) := hf
    cases hf
  | succ n ih =>
    intro h a7 a8 hf
    rw [f_X11_unlikeSigns_26] at hf
    refine x_iload_n X dX11_unlikeSigns_26 2 rfl rfl ?_
    refine x_sipush X (v := 1024) dX11_unlikeSigns_27 (by decide) ?_
    refine x_icmp_ge X 64 dX11_unlikeSigns_30 (by decide) (fun c9 => ?_) (fun c9 => ?_)
    · replace hf := (if_pos c9).symm.trans hf
      refine x_aload_n X dX11_unlikeSigns_33 0 rfl rfl ?_
      refine x_iload_n X dX11_unlikeSigns_34 1 rfl rfl ?_
      refine x_iload_n X dX11_unlikeSigns_35 2 rfl rfl ?_
      obtain ⟨h10, r11, g12, hf⟩ := bnd_some hf
      refine c_X11_136 X hω g12 (hR := ⟨Nat.le_of_ble_eq_true rfl, Nat.le_of_ble_eq_true rfl⟩) ⟨Nat.zero_le _, Nat.zero_le _⟩ (Nat.le_of_ble_eq_true rfl) dX11_unlikeSigns_36 ?_
      refine x_istore_n X [(3, .int r11), (0, .ref (q 0)), (1, .int a7), (2, .int a8)] dX11_unlikeSigns_39 rfl (Nat.le_of_ble_eq_true rfl) rfl ?_
      refine x_aload_n X dX11_unlikeSigns_40 1 rfl rfl ?_
      refine x_getsj X (i := 0) 36 fl_X11_62_12 (sdX_0 hω) (ks_0 _) rfl (j := 36) rfl dX11_unlikeSigns_41 ?_
      refine x_iload_n X dX11_unlikeSigns_44 0 rfl rfl ?_
      refine x_bipush X (v := 64) dX11_unlikeSigns_45 (by decide) ?_
      obtain ⟨z13, hf⟩ := nz_some hf
      refine x_idiv X dX11_unlikeSigns_47 z13 ?_
      refine x_dup2 X dX11_unlikeSigns_48 rfl rfl ?_
      obtain ⟨z14, hf⟩ := chk_some hf
      refine x_lald X (i := 36) (n := 16) (sdX_36 hω) (ks_36 _) z14 dX11_unlikeSigns_49 ?_
      refine x_lconst X (v := 1) dX11_unlikeSigns_50 (by decide) ?_
      refine x_iload_n X dX11_unlikeSigns_51 0 rfl rfl ?_
      refine x_bipush X (v := 64) dX11_unlikeSigns_52 (by decide) ?_
      obtain ⟨z15, hf⟩ := nz_some hf
      refine x_irem X dX11_unlikeSigns_54 z15 ?_
      refine x_lshl X dX11_unlikeSigns_55 ?_
      refine x_lor X dX11_unlikeSigns_56 ?_
      obtain ⟨z16, hf⟩ := chk_some hf
      refine x_last X (i := 36) (n := 16) (sdX_36 hω) (ks_36 _) z16 dX11_unlikeSigns_57 ?_
      obtain ⟨h17, eh17, hf⟩ := nm_some hf
      refine x_nmh eh17 ?_
      obtain ⟨v18, ev18, hf⟩ := nm_some hf
      refine x_iincN X (v := 1) ev18 [(2, .int v18), (3, .int r11), (0, .ref (q 0)), (1, .int a7)] dX11_unlikeSigns_58 3 rfl (by decide) (Nat.le_of_ble_eq_true rfl) rfl ?_
      refine x_goto X 26 dX11_unlikeSigns_61 (by decide) ?_
      refine x_lv [2, 3, 0] rfl ?_
      exact ih h17 _ _ hf
    · replace hf := (if_neg c9).symm.trans hf
      refine x_iconst X (v := 0) dX11_unlikeSigns_64 (by decide) ?_
      refine x_istore_n X [(2, .int (0 : Int32)), (0, .ref (q 0)), (1, .int a7)] dX11_unlikeSigns_65 rfl (Nat.le_of_ble_eq_true rfl) rfl ?_
      refine x_iconst X (v := 0) dX11_unlikeSigns_66 (by decide) ?_
      refine x_istore_n X [(3, .int (0 : Int32)), (2, .int (0 : Int32)), (0, .ref (q 0)), (1, .int a7)] dX11_unlikeSigns_67 rfl (Nat.le_of_ble_eq_true rfl) rfl ?_
      refine x_lv [2, 1, 0] rfl ?_
      exact k_X11_unlikeSigns_68 hω X R _ h _ _ hf
set_option maxRecDepth 100000 in
set_option maxHeartbeats 4000000 in
theorem k_X11_unlikeSigns_2 {ω : XO} (hω : ω.2.2.2.1 = 1) {κ : XK} (X : XC ω rm_X11_unlikeSigns 4 κ cX11_unlikeSigns "SignalBlind") {L : List Nat} {q : Nat → Nat} {h' : hp} {r : Int32} (R : XRet ω rm_X11_unlikeSigns κ (some .int) L q h' (some (.int r))) : ∀ (n : Nat) (h : hp) (a1 : Int32) (a2 : Int32), f_X11_unlikeSigns_2 n h a1 a2 = some (h', r) → XG ω rm_X11_unlikeSigns 4 κ L q h 0 0 2 [(0, .ref (q 0)), (1, .int a1), (2, .int a2)] [] := by
  intro n
  induction n with
  | zero =>
    intro h a1 a2 hf
    have hf : (none : Option (hp × Int32)) = some (h', r) := hf
    cases hf
  | succ n ih =>
    intro h a1 a2 hf
    rw [f_X11_unlikeSigns_2] at hf
    refine x_iload_n X dX11_unlikeSigns_2 2 rfl rfl ?_
    refine x_aload_n X dX11_unlikeSigns_3 0 rfl rfl ?_
    refine x_getsj X (i := 0) 36 fl_X11_62_12 (sdX_0 hω) (ks_0 _) rfl (j := 36) rfl dX11_unlikeSigns_4 ?_
    refine x_alen X (i := 36) (n := 16) (e := 3) (v := 16) (by decide) (sdX_36 hω) (ks_36 _) (by decide) dX11_unlikeSigns_7 ?_
    refine x_icmp_ge X 24 dX11_unlikeSigns_8 (by decide) (fun c3 => ?_) (fun c3 => ?_)
    · replace hf := (if_pos c3).symm.trans hf
      refine x_aload_n X dX11_unlikeSigns_11 0 rfl rfl ?_
      refine x_getsj X (i := 0) 36 fl_X11_62_12 (sdX_0 hω) (ks_0 _) rfl (j := 36) rfl dX11_unlikeSigns_12 ?_
      refine x_iload_n X dX11_unlikeSigns_15 2 rfl rfl ?_
      refine x_lconst X (v := 0) dX11_unlikeSigns_16 (by decide) ?_
      obtain ⟨z4, hf⟩ := chk_some hf
      refine x_last X (i := 36) (n := 16) (sdX_36 hω) (ks_36 _) z4 dX11_unlikeSigns_17 ?_
      obtain ⟨h5, eh5, hf⟩ := nm_some hf
      refine x_nmh eh5 ?_
      obtain ⟨v6, ev6, hf⟩ := nm_some hf
      refine x_iincN X (v := 1) ev6 [(2, .int v6), (0, .ref (q 0)), (1, .int a1)] dX11_unlikeSigns_18 2 rfl (by decide) (Nat.le_of_ble_eq_true rfl) rfl ?_
      refine x_goto X 2 dX11_unlikeSigns_21 (by decide) ?_
      refine x_lv [1, 2, 0] rfl ?_
      exact ih h5 _ _ hf
    · replace hf := (if_neg c3).symm.trans hf
      refine x_iconst X (v := 0) dX11_unlikeSigns_24 (by decide) ?_
      refine x_istore_n X [(2, .int (0 : Int32)), (0, .ref (q 0)), (1, .int a1)] dX11_unlikeSigns_25 rfl (Nat.le_of_ble_eq_true rfl) rfl ?_
      refine x_lv [1, 2, 0] rfl ?_
      exact k_X11_unlikeSigns_26 hω X R _ h _ _ hf
set_option maxRecDepth 100000 in
set_option maxHeartbeats 4000000 in
theorem k_X11_unlikeSigns {ω : XO} (hω : ω.2.2.2.1 = 1) {L : List Nat} {q : Nat → Nat} {h h' : hp} {p0 : Int32} {r : Int32} (hf : f_X11_unlikeSigns h p0 = some (h', r)) : XM ω yX11_unlikeSigns cX11_unlikeSigns 4 (some .int) rm_X11_unlikeSigns L q h [.ref (q 0), .int p0] (some (.int r)) h' := by
  refine XM_intro [(0, .ref (q 0)), (1, .int p0)] "SignalBlind" (by decide) rfl rfl (Nat.le_of_ble_eq_true rfl) (fun κ X R => ?_)
  unfold f_X11_unlikeSigns at hf
  refine x_iconst X (v := 0) dX11_unlikeSigns_0 (by decide) ?_
  refine x_istore_n X [(2, .int (0 : Int32)), (0, .ref (q 0)), (1, .int p0)] dX11_unlikeSigns_1 rfl (Nat.le_of_ble_eq_true rfl) rfl ?_
  refine x_lv [1, 2, 0] rfl ?_
  exact k_X11_unlikeSigns_2 hω X R _ h _ _ hf
theorem mt_X11_unlikeSigns : MT yX11_unlikeSigns cX11_unlikeSigns 4 (some .int) "SignalBlind" 1 := ⟨(mT_2 200 rfl rfl), (mTp (q := (yX11_unlikeSigns, 12)) (by decide +kernel) rfl), (mT_1 1 rfl rfl), (mT_2 201 rfl rfl), by decide⟩
theorem c_X11_133 {ω : XO} {rm : Room} {nL : Nat} {κ : XK} {cc : ByteArray} (X : XC ω rm nL κ cc "SignalBlind") (hω : ω.2.2.2.1 = 1) {L : List Nat} {q : Nat → Nat} {h h' : hp} {cells slots pc : Nat} {lv : List (Nat × Value)} {rest : List Value} {p0 : Int32} {r : Int32} (hf : f_X11_unlikeSigns h p0 = some (h', r)) (hR : rm_X11_unlikeSigns.frames + 1 ≤ rm.frames ∧ 8 + (4 + 11) + rm_X11_unlikeSigns.locals ≤ rm.locals) (hcs : cells ≤ rm.cells ∧ slots ≤ rm.slots) (hroom : (rest.map fun v => v.category).sum ≤ 8) (hd : decode cc pc = .ok (.invokevirtual 133, 3)) (kk : XG ω rm nL κ L q h' cells slots (pc + 3) lv (.int r :: rest)) : XG ω rm nL κ L q h cells slots pc lv (.int p0 :: .ref (q 0) :: rest) := x_callV X [.int p0] rest (k_X11_unlikeSigns hω hf) mt_X11_unlikeSigns (mT_2 198 rfl rfl) hR ⟨rfl, rfl⟩ hcs (sdX_0 hω) (ks_0 _) (by decide) rfl rfl hroom hd kk
