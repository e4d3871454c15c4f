abbrev rm_X12_turned : Room := { frames := 0, cells := 0, slots := 0, locals := 0 }
def f_X12_turned (h : hp) (p0 : Int32) (p1 : Int32) : Option Int32 := (nz (10 : Int32)
 (nm (p1 - p1 / (10 : Int32) * (10 : Int32)) fun v2 =>
 (some (((p0 <<< (v2 &&& 31)) ||| (p0 >>> (((10 : Int32) - v2) &&& 31))) &&& (1023 : Int32)))))
set_option maxRecDepth 100000 in
set_option maxHeartbeats 4000000 in
theorem k_X12_turned {ω : XO} (hω : ω.2.2.2.1 = 0) {L : List Nat} {q : Nat → Nat} {h : hp} {p0 : Int32} {p1 : Int32} {r : Int32} (hf : f_X12_turned h p0 p1 = some r) : XM ω yX12_turned cX12_turned 4 (some .int) rm_X12_turned L q h [.ref (q 52), .int p0, .int p1] (some (.int r)) h := by
  refine XM_intro [(0, .ref (q 52)), (1, .int p0), (2, .int p1)] "SignalBlindModel" (by decide) rfl rfl (Nat.le_of_ble_eq_true rfl) (fun κ X R => ?_)
  unfold f_X12_turned at hf
  refine x_iload_n X dX12_turned_0 2 rfl rfl ?_
  refine x_bipush X (v := 10) dX12_turned_1 (by decide) ?_
  obtain ⟨z1, hf⟩ := nz_some hf
  refine x_irem X dX12_turned_3 z1 ?_
  obtain ⟨v2, ev2, hf⟩ := nm_some hf
  refine x_nmI ev2 ?_
  refine x_istore_n X [(3, .int v2), (0, .ref (q 52)), (1, .int p0), (2, .int p1)] dX12_turned_4 rfl (Nat.le_of_ble_eq_true rfl) rfl ?_
  refine x_iload_n X dX12_turned_5 2 rfl rfl ?_
  refine x_iload_n X dX12_turned_6 0 rfl rfl ?_
  refine x_ishl X dX12_turned_7 ?_
  refine x_iload_n X dX12_turned_8 2 rfl rfl ?_
  refine x_bipush X (v := 10) dX12_turned_9 (by decide) ?_
  refine x_iload_n X dX12_turned_11 0 rfl rfl ?_
  refine x_isub X dX12_turned_12 ?_
  refine x_ishr X dX12_turned_13 ?_
  refine x_ior X dX12_turned_14 ?_
  refine x_sipush X (v := 1023) dX12_turned_15 (by decide) ?_
  refine x_iand X dX12_turned_18 ?_
  exact x_retRI X R hf dX12_turned_19
theorem mt_X12_turned : MT yX12_turned cX12_turned 4 (some .int) "SignalBlindModel" 2 := ⟨(mT_6 126 rfl rfl), (mTp (q := (yX12_turned, 61)) (by decide +kernel) rfl), (mT_1 10 rfl rfl), (mT_6 127 rfl rfl), by decide⟩
theorem c_X12_277 {ω : XO} {rm : Room} {nL : Nat} {κ : XK} {cc : ByteArray} (X : XC ω rm nL κ cc "SignalBlindModel") (hω : ω.2.2.2.1 = 0) {L : List Nat} {q : Nat → Nat} {h : hp} {cells slots pc : Nat} {lv : List (Nat × Value)} {rest : List Value} {p0 : Int32} {p1 : Int32} {r : Int32} (hf : f_X12_turned h p0 p1 = some r) (hR : rm_X12_turned.frames + 1 ≤ rm.frames ∧ 8 + (4 + 11) + rm_X12_turned.locals ≤ rm.locals) (hcs : cells ≤ rm.cells ∧ slots ≤ rm.slots) (hroom : (rest.map fun v => v.category).sum ≤ 8) (hd : decode cc pc = .ok (.invokevirtual 277, 3)) (kk : XG ω rm nL κ L q h cells slots (pc + 3) lv (.int r :: rest)) : XG ω rm nL κ L q h cells slots pc lv (.int p1 :: .int p0 :: .ref (q 52) :: rest) := x_callV X [.int p0, .int p1] rest (k_X12_turned hω hf) mt_X12_turned (mT_6 124 rfl rfl) hR ⟨rfl, rfl⟩ hcs (sdM_52 hω) (ks_52 _) (by decide) rfl rfl hroom hd kk

abbrev rm_X12_mirrored : Room := { frames := 1, cells := 0, slots := 0, locals := 22 }
def f_X12_mirrored_30 (h : hp) (k4 : Int32 → Int32 → Int32 → Option Int32) (a8 : Int32) (a9 : Int32) (a10 : Int32) (a11 : Int32) : Option Int32 := (nm (a11 ||| a10) fun v12 =>
 (nm (a9 + (1 : Int32)) fun v13 =>
 (k4 a8 v12 v13)))
def f_X12_mirrored_4 (h : hp) : Nat → Int32 → Int32 → Int32 → Option Int32
  | 0, _, _, _ => none
  | n + 1, a1, a2, a3 => (if a3 < (10 : Int32) then
 (bnr (f_X12_has h a1 ((9 : Int32) - a3)) fun r5 =>
 (if r5 = 0 then
 (f_X12_mirrored_30 h (f_X12_mirrored_4 h n) a1 a3 (0 : Int32) a2)
 else
 (f_X12_mirrored_30 h (f_X12_mirrored_4 h n) a1 a3 ((1 : Int32) <<< (a3 &&& 31)) a2)))
 else
 (some a2))
def f_X12_mirrored (h : hp) (p0 : Int32) : Option Int32 := (f_X12_mirrored_4 h 2000 p0 (0 : Int32) (0 : Int32))
set_option maxRecDepth 100000 in
set_option maxHeartbeats 4000000 in
theorem k_X12_mirrored_30 {ω : XO} (hω : ω.2.2.2.1 = 0) {κ : XK} (X : XC ω rm_X12_mirrored 4 κ cX12_mirrored "SignalBlindModel") {L : List Nat} {q : Nat → Nat} {h : hp} {r : Int32} (R : XRet ω rm_X12_mirrored κ (some .int) L q h (some (.int r))) (k4 : Int32 → Int32 → Int32 → Option Int32) (hk4 : ∀ (a1 : Int32) (a2 : Int32) (a3 : Int32), k4 a1 a2 a3 = some r → XG ω rm_X12_mirrored 4 κ L q h 0 0 4 [(0, .ref (q 52)), (1, .int a1), (2, .int a2), (3, .int a3)] []) : ∀ (a8 : Int32) (a9 : Int32) (a10 : Int32) (a11 : Int32), f_X12_mirrored_30 h k4 a8 a9 a10 a11 = some r → XG ω rm_X12_mirrored 4 κ L q h 0 0 30 [(0, .ref (q 52)), (1, .int a8), (3, .int a9)] [.int a10, .int a11] := by
  intro a8 a9 a10 a11 hf
  unfold f_X12_mirrored_30 at hf
  refine x_ior X dX12_mirrored_30 ?_
  obtain ⟨v12, ev12, hf⟩ := nm_some hf
  refine x_nmI ev12 ?_
  refine x_istore_n X [(2, .int v12), (0, .ref (q 52)), (1, .int a8), (3, .int a9)] dX12_mirrored_31 rfl (Nat.le_of_ble_eq_true rfl) rfl ?_
  obtain ⟨v13, ev13, hf⟩ := nm_some hf
  refine x_iincN X (v := 1) ev13 [(3, .int v13), (2, .int v12), (0, .ref (q 52)), (1, .int a8)] dX12_mirrored_32 3 rfl (by decide) (Nat.le_of_ble_eq_true rfl) rfl ?_
  refine x_goto X 4 dX12_mirrored_35 (by decide) ?_
  refine x_lv [2, 3, 1, 0] rfl ?_
  exact hk4 _ _ _ hf
set_option maxRecDepth 100000 in
set_option maxHeartbeats 4000000 in
theorem k_X12_mirrored_4 {ω : XO} (hω : ω.2.2.2.1 = 0) {κ : XK} (X : XC ω rm_X12_mirrored 4 κ cX12_mirrored "SignalBlindModel") {L : List Nat} {q : Nat → Nat} {h : hp} {r : Int32} (R : XRet ω rm_X12_mirrored κ (some .int) L q h (some (.int r))) : ∀ (n : Nat) (a1 : Int32) (a2 : Int32) (a3 : Int32), f_X12_mirrored_4 h n a1 a2 a3 = some r → XG ω rm_X12_mirrored 4 κ L q h 0 0 4 [(0, .ref (q 52)), (1, .int a1), (2, .int a2), (3, .int a3)] [] := by
  intro n
  induction n with
  | zero =>
    intro a1 a2 a3 hf
    have hf : (none : Option Int32) = some r := hf
    cases hf
  | succ n ih =>
    intro a1 a2 a3 hf
    rw [f_X12_mirrored_4] at hf
    refine x_iload_n X dX12_mirrored_4 3 rfl rfl ?_
    refine x_bipush X (v := 10) dX12_mirrored_5 (by decide) ?_
    refine x_icmp_ge X 38 dX12_mirrored_7 (by decide) (fun c4 => ?_) (fun c4 => ?_)
    · replace hf := (if_pos c4).symm.trans hf
      refine x_iload_n X dX12_mirrored_10 2 rfl rfl ?_
      refine x_aload_n X dX12_mirrored_11 0 rfl rfl ?_
      refine x_iload_n X dX12_mirrored_12 1 rfl rfl ?_
      refine x_bipush X (v := 9) dX12_mirrored_13 (by decide) ?_
      refine x_iload_n X dX12_mirrored_15 3 rfl rfl ?_
      refine x_isub X dX12_mirrored_16 ?_
      obtain ⟨r5, g6, hf⟩ := bnr_some hf
      refine c_X12_197 X hω g6 (hR := ⟨Nat.le_of_ble_eq_true rfl, Nat.le_of_ble_eq_true rfl⟩) ⟨Nat.zero_le _, Nat.zero_le _⟩ (Nat.le_of_ble_eq_true rfl) dX12_mirrored_17 ?_
      refine x_if_eq X 29 dX12_mirrored_20 (by decide) (fun c7 => ?_) (fun c7 => ?_)
      · replace hf := (if_pos c7).symm.trans hf
        refine x_iconst X (v := 0) dX12_mirrored_29 (by decide) ?_
        refine x_lv [0, 1, 3] rfl ?_
        exact k_X12_mirrored_30 hω X R _ ih _ _ _ _ hf
      · replace hf := (if_neg c7).symm.trans hf
        refine x_iconst X (v := 1) dX12_mirrored_23 (by decide) ?_
        refine x_iload_n X dX12_mirrored_24 3 rfl rfl ?_
        refine x_ishl X dX12_mirrored_25 ?_
        refine x_goto X 30 dX12_mirrored_26 (by decide) ?_
        refine x_lv [0, 1, 3] rfl ?_
        exact k_X12_mirrored_30 hω X R _ ih _ _ _ _ hf
    · replace hf := (if_neg c4).symm.trans hf
      refine x_iload_n X dX12_mirrored_38 2 rfl rfl ?_
      exact x_retRI X R hf dX12_mirrored_39
set_option maxRecDepth 100000 in
set_option maxHeartbeats 4000000 in
theorem k_X12_mirrored {ω : XO} (hω : ω.2.2.2.1 = 0) {L : List Nat} {q : Nat → Nat} {h : hp} {p0 : Int32} {r : Int32} (hf : f_X12_mirrored h p0 = some r) : XM ω yX12_mirrored cX12_mirrored 4 (some .int) rm_X12_mirrored L q h [.ref (q 52), .int p0] (some (.int r)) h := by
  refine XM_intro [(0, .ref (q 52)), (1, .int p0)] "SignalBlindModel" (by decide) rfl rfl (Nat.le_of_ble_eq_true rfl) (fun κ X R => ?_)
  unfold f_X12_mirrored at hf
  refine x_iconst X (v := 0) dX12_mirrored_0 (by decide) ?_
  refine x_istore_n X [(2, .int (0 : Int32)), (0, .ref (q 52)), (1, .int p0)] dX12_mirrored_1 rfl (Nat.le_of_ble_eq_true rfl) rfl ?_
  refine x_iconst X (v := 0) dX12_mirrored_2 (by decide) ?_
  refine x_istore_n X [(3, .int (0 : Int32)), (2, .int (0 : Int32)), (0, .ref (q 52)), (1, .int p0)] dX12_mirrored_3 rfl (Nat.le_of_ble_eq_true rfl) rfl ?_
  refine x_lv [2, 3, 1, 0] rfl ?_
  exact k_X12_mirrored_4 hω X R _ _ _ _ hf
theorem mt_X12_mirrored : MT yX12_mirrored cX12_mirrored 4 (some .int) "SignalBlindModel" 1 := ⟨(mT_6 130 rfl rfl), (mTp (q := (yX12_mirrored, 61)) (by decide +kernel) rfl), (mT_1 10 rfl rfl), (mT_6 131 rfl rfl), by decide⟩
theorem c_X12_284 {ω : XO} {rm : Room} {nL : Nat} {κ : XK} {cc : ByteArray} (X : XC ω rm nL κ cc "SignalBlindModel") (hω : ω.2.2.2.1 = 0) {L : List Nat} {q : Nat → Nat} {h : hp} {cells slots pc : Nat} {lv : List (Nat × Value)} {rest : List Value} {p0 : Int32} {r : Int32} (hf : f_X12_mirrored h p0 = some r) (hR : rm_X12_mirrored.frames + 1 ≤ rm.frames ∧ 8 + (4 + 11) + rm_X12_mirrored.locals ≤ rm.locals) (hcs : cells ≤ rm.cells ∧ slots ≤ rm.slots) (hroom : (rest.map fun v => v.category).sum ≤ 8) (hd : decode cc pc = .ok (.invokevirtual 284, 3)) (kk : XG ω rm nL κ L q h cells slots (pc + 3) lv (.int r :: rest)) : XG ω rm nL κ L q h cells slots pc lv (.int p0 :: .ref (q 52) :: rest) := x_callV X [.int p0] rest (k_X12_mirrored hω hf) mt_X12_mirrored (mT_6 128 rfl rfl) hR ⟨rfl, rfl⟩ hcs (sdM_52 hω) (ks_52 _) (by decide) rfl rfl hroom hd kk

abbrev rm_X12_blind : Room := { frames := 4, cells := 0, slots := 0, locals := 96 }
def f_X12_blind_106 (k8 : hp → Int32 → Int32 → Int32 → Int32 → Option (hp × Int32)) (h : hp) (a12 : Int32) (a13 : Int32) (a14 : Int32) (a15 : Int32) : Option (hp × Int32) := (nm (a15 + (1 : Int32)) fun v16 =>
 (k8 h a12 a13 a14 v16))
def f_X12_blind_105 (k8 : hp → Int32 → Int32 → Int32 → Int32 → Option (hp × Int32)) (h : hp) (a26 : Int32) (a27 : Int32) (a28 : Int32) (a29 : Int32) : Option (hp × Int32) := (f_X12_blind_106 k8 h a26 a27 a29 a28)
def f_X12_blind_8 : Nat → hp → Int32 → Int32 → Int32 → Int32 → Option (hp × Int32)
  | 0, _, _, _, _, _ => none
  | n + 1, h, a3, a4, a5, a6 => (bnr (f_X12_behind h) fun r7 =>
 (if a6 < r7 then
 (chk a6 60
 (if (aI h 60 (a6).toNatClampNeg) = (3 : Int32) then
 (f_X12_blind_106 (f_X12_blind_8 n) h a3 a4 a5 a6)
 else
 (bnd (f_X12_holds h a6 a3 a4) fun h17 r18 =>
 (if r18 = 0 then
 (f_X12_blind_106 (f_X12_blind_8 n) h17 a3 a4 a5 a6)
 else
 (chk a6 60
 (nz (10 : Int32)
 (nm ((1 : Int32) <<< (((aI h17 61 (a6).toNatClampNeg) - (aI h17 61 (a6).toNatClampNeg) / (10 : Int32) * (10 : Int32)) &&& 31)) fun v23 =>
 (chk a6 60
 (if (aI h17 60 (a6).toNatClampNeg) = 0 then
 (f_X12_blind_105 (f_X12_blind_8 n) h17 a3 a4 a6 (a5 ||| v23))
 else
 (chk a6 60
 (if (aI h17 60 (a6).toNatClampNeg) = (1 : Int32) then
 (f_X12_blind_105 (f_X12_blind_8 n) h17 a3 a4 a6 (a5 &&& (v23 ^^^ (-1 : Int32))))
 else
 (chk a6 60
 (bnr (f_X12_turned h17 a5 (aI h17 61 (a6).toNatClampNeg)) fun r33 =>
 (f_X12_blind_105 (f_X12_blind_8 n) h17 a3 a4 a6 r33))))))))))))))
 else
 (some (h, a5))))
def f_X12_blind (h : hp) (p0 : Int32) (p1 : Int32) : Option (hp × Int32) := (bnr (f_X12_begin h) fun r1 =>
 (f_X12_blind_8 2000 h p0 p1 p1 r1))
set_option maxRecDepth 100000 in
set_option maxHeartbeats 4000000 in
theorem k_X12_blind_106 {ω : XO} (hω : ω.2.2.2.1 = 0) {κ : XK} (X : XC ω rm_X12_blind 6 κ cX12_blind "SignalBlindModel") {L : List Nat} {q : Nat → Nat} {h' : hp} {r : Int32} (R : XRet ω rm_X12_blind κ (some .int) L q h' (some (.int r))) (k8 : hp → Int32 → Int32 → Int32 → Int32 → Option (hp × Int32)) (hk8 : ∀ (h : hp) (a3 : Int32) (a4 : Int32) (a5 : Int32) (a6 : Int32), k8 h a3 a4 a5 a6 = some (h', r) → XG ω rm_X12_blind 6 κ L q h 0 0 8 [(0, .ref (q 52)), (1, .int a3), (2, .int a4), (3, .int a5), (4, .int a6)] []) : ∀ (h : hp) (a12 : Int32) (a13 : Int32) (a14 : Int32) (a15 : Int32), f_X12_blind_106 k8 h a12 a13 a14 a15 = some (h', r) → XG ω rm_X12_blind 6 κ L q h 0 0 106 [(0, .ref (q 52)), (1, .int a12), (2, .int a13), (3, .int a14), (4, .int a15)] [] := by
  intro h a12 a13 a14 a15 hf
  unfold f_X12_blind_106 at hf
  obtain ⟨v16, ev16, hf⟩ := nm_some hf
  refine x_iincN X (v := 1) ev16 [(4, .int v16), (0, .ref (q 52)), (1, .int a12), (2, .int a13), (3, .int a14)] dX12_blind_106 4 rfl (by decide) (Nat.le_of_ble_eq_true rfl) rfl ?_
  refine x_goto X 8 dX12_blind_109 (by decide) ?_
  refine x_lv [1, 2, 3, 4, 0] rfl ?_
  exact hk8 h _ _ _ _ hf
set_option maxRecDepth 100000 in
set_option maxHeartbeats 4000000 in
theorem k_X12_blind_105 {ω : XO} (hω : ω.2.2.2.1 = 0) {κ : XK} (X : XC ω rm_X12_blind 6 κ cX12_blind "SignalBlindModel") {L : List Nat} {q : Nat → Nat} {h' : hp} {r : Int32} (R : XRet ω rm_X12_blind κ (some .int) L q h' (some (.int r))) (k8 : hp → Int32 → Int32 → Int32 → Int32 → Option (hp × Int32)) (hk8 : ∀ (h : hp) (a3 : Int32) (a4 : Int32) (a5 : Int32) (a6 : Int32), k8 h a3 a4 a5 a6 = some (h', r) → XG ω rm_X12_blind 6 κ L q h 0 0 8 [(0, .ref (q 52)), (1, .int a3), (2, .int a4), (3, .int a5), (4, .int a6)] []) : ∀ (h : hp) (a26 : Int32) (a27 : Int32) (a28 : Int32) (a29 : Int32), f_X12_blind_105 k8 h a26 a27 a28 a29 = some (h', r) → XG ω rm_X12_blind 6 κ L q h 0 0 105 [(0, .ref (q 52)), (1, .int a26), (2, .int a27), (4, .int a28)] [.int a29] := by
  intro h a26 a27 a28 a29 hf
  unfold f_X12_blind_105 at hf
  refine x_istore_n X [(3, .int a29), (0, .ref (q 52)), (1, .int a26), (2, .int a27), (4, .int a28)] dX12_blind_105 rfl (Nat.le_of_ble_eq_true rfl) rfl ?_
  refine x_lv [1, 2, 3, 0, 4] rfl ?_
  exact k_X12_blind_106 hω X R _ hk8 h _ _ _ _ hf
set_option maxRecDepth 100000 in
set_option maxHeartbeats 4000000 in
theorem k_X12_blind_8 {ω : XO} (hω : ω.2.2.2.1 = 0) {κ : XK} (X : XC ω rm_X12_blind 6 κ cX12_blind "SignalBlindModel") {L : List Nat} {q : Nat → Nat} {h' : hp} {r : Int32} (R : XRet ω rm_X12_blind κ (some .int) L q h' (some (.int r))) : ∀ (n : Nat) (h : hp) (a3 : Int32) (a4 : Int32) (a5 : Int32) (a6 : Int32), f_X12_blind_8 n h a3 a4 a5 a6 = some (h', r) → XG ω rm_X12_blind 6 κ L q h 0 0 8 [(0, .ref (q 52)), (1, .int a3), (2, .int a4), (3, .int a5), (4, .int a6)] [] := by
  intro n
  induction n with
  | zero =>
    intro h a3 a4 a5 a6 hf
    have hf : (none : Option (hp × Int32)) = some (h', r) := hf
    cases hf
  | succ n ih =>
    intro h a3 a4 a5 a6 hf
    rw [f_X12_blind_8] at hf
    refine x_iload X dX12_blind_8 4 rfl ?_
    refine x_aload_n X dX12_blind_10 0 rfl rfl ?_
    obtain ⟨r7, g8, hf⟩ := bnr_some hf
    refine c_X12_264 X hω g8 (hR := ⟨Nat.le_of_ble_eq_true rfl, Nat.le_of_ble_eq_true rfl⟩) ⟨Nat.zero_le _, Nat.zero_le _⟩ (Nat.le_of_ble_eq_true rfl) dX12_blind_11 ?_
    refine x_icmp_ge X 112 dX12_blind_14 (by decide) (fun c9 => ?_) (fun c9 => ?_)
    · replace hf := (if_pos c9).symm.trans hf
      refine x_aload_n X dX12_blind_17 0 rfl rfl ?_
      refine x_getsj X (i := 52) 8 fl_X12_56_13 (sdM_52 hω) (ks_52 _) rfl (j := 60) rfl dX12_blind_18 ?_
      refine x_iload X dX12_blind_21 4 rfl ?_
      obtain ⟨z10, hf⟩ := chk_some hf
      refine x_iald X (i := 60) (n := 60) (sdM_60 hω) (ks_60 _) z10 dX12_blind_23 ?_
      refine x_iconst X (v := 3) dX12_blind_24 (by decide) ?_
      refine x_icmp_eq X 106 dX12_blind_25 (by decide) (fun c11 => ?_) (fun c11 => ?_)
      · replace hf := (if_pos c11).symm.trans hf
        refine x_lv [0, 1, 2, 3, 4] rfl ?_
        exact k_X12_blind_106 hω X R _ ih h _ _ _ _ hf
      · replace hf := (if_neg c11).symm.trans hf
        refine x_aload_n X dX12_blind_28 0 rfl rfl ?_
        refine x_iload X dX12_blind_29 4 rfl ?_
        refine x_iload_n X dX12_blind_31 1 rfl rfl ?_
        refine x_iload_n X dX12_blind_32 2 rfl rfl ?_
        obtain ⟨h17, r18, g19, hf⟩ := bnd_some hf
        refine c_X12_274 X hω g19 (hR := ⟨Nat.le_of_ble_eq_true rfl, Nat.le_of_ble_eq_true rfl⟩) ⟨Nat.zero_le _, Nat.zero_le _⟩ (Nat.le_of_ble_eq_true rfl) dX12_blind_33 ?_
        refine x_if_ne X 42 dX12_blind_36 (by decide) (fun c20 => ?_) (fun c20 => ?_)
        · replace hf := (if_pos c20).symm.trans hf
          refine x_goto X 106 dX12_blind_39 (by decide) ?_
          refine x_lv [0, 1, 2, 3, 4] rfl ?_
          exact k_X12_blind_106 hω X R _ ih h17 _ _ _ _ hf
        · replace hf := (if_neg c20).symm.trans hf
          refine x_iconst X (v := 1) dX12_blind_42 (by decide) ?_
          refine x_aload_n X dX12_blind_43 0 rfl rfl ?_
          refine x_getsj X (i := 52) 9 fl_X12_59_13 (sdM_52 hω) (ks_52 _) rfl (j := 61) rfl dX12_blind_44 ?_
          refine x_iload X dX12_blind_47 4 rfl ?_
          obtain ⟨z21, hf⟩ := chk_some hf
          refine x_iald X (i := 61) (n := 60) (sdM_61 hω) (ks_61 _) z21 dX12_blind_49 ?_
          refine x_bipush X (v := 10) dX12_blind_50 (by decide) ?_
          obtain ⟨z22, hf⟩ := nz_some hf
          refine x_irem X dX12_blind_52 z22 ?_
          refine x_ishl X dX12_blind_53 ?_
          obtain ⟨v23, ev23, hf⟩ := nm_some hf
          refine x_nmI ev23 ?_
          refine x_istore X [(5, .int v23), (0, .ref (q 52)), (1, .int a3), (2, .int a4), (3, .int a5), (4, .int a6)] dX12_blind_54 (Nat.le_of_ble_eq_true rfl) rfl ?_
          refine x_aload_n X dX12_blind_56 1 rfl rfl ?_
          refine x_getsj X (i := 52) 8 fl_X12_56_13 (sdM_52 hω) (ks_52 _) rfl (j := 60) rfl dX12_blind_57 ?_
          refine x_iload X dX12_blind_60 5 rfl ?_
          obtain ⟨z24, hf⟩ := chk_some hf
          refine x_iald X (i := 60) (n := 60) (sdM_60 hω) (ks_60 _) z24 dX12_blind_62 ?_
          refine x_if_ne X 73 dX12_blind_63 (by decide) (fun c25 => ?_) (fun c25 => ?_)
          · replace hf := (if_pos c25).symm.trans hf
            refine x_iload_n X dX12_blind_66 4 rfl rfl ?_
            refine x_iload X dX12_blind_67 0 rfl ?_
            refine x_ior X dX12_blind_69 ?_
            refine x_goto X 105 dX12_blind_70 (by decide) ?_
            refine x_lv [1, 2, 3, 5] rfl ?_
            exact k_X12_blind_105 hω X R _ ih h17 _ _ _ _ hf
          · replace hf := (if_neg c25).symm.trans hf
            refine x_aload_n X dX12_blind_73 1 rfl rfl ?_
            refine x_getsj X (i := 52) 8 fl_X12_56_13 (sdM_52 hω) (ks_52 _) rfl (j := 60) rfl dX12_blind_74 ?_
            refine x_iload X dX12_blind_77 5 rfl ?_
            obtain ⟨z30, hf⟩ := chk_some hf
            refine x_iald X (i := 60) (n := 60) (sdM_60 hω) (ks_60 _) z30 dX12_blind_79 ?_
            refine x_iconst X (v := 1) dX12_blind_80 (by decide) ?_
            refine x_icmp_ne X 93 dX12_blind_81 (by decide) (fun c31 => ?_) (fun c31 => ?_)
            · replace hf := (if_pos c31).symm.trans hf
              refine x_iload_n X dX12_blind_84 4 rfl rfl ?_
              refine x_iload X dX12_blind_85 0 rfl ?_
              refine x_iconst X (v := -1) dX12_blind_87 (by decide) ?_
              refine x_ixor X dX12_blind_88 ?_
              refine x_iand X dX12_blind_89 ?_
              refine x_goto X 105 dX12_blind_90 (by decide) ?_
              refine x_lv [1, 2, 3, 5] rfl ?_
              exact k_X12_blind_105 hω X R _ ih h17 _ _ _ _ hf
            · replace hf := (if_neg c31).symm.trans hf
              refine x_aload_n X dX12_blind_93 1 rfl rfl ?_
              refine x_iload_n X dX12_blind_94 4 rfl rfl ?_
              refine x_aload_n X dX12_blind_95 1 rfl rfl ?_
              refine x_getsj X (i := 52) 9 fl_X12_59_13 (sdM_52 hω) (ks_52 _) rfl (j := 61) rfl dX12_blind_96 ?_
              refine x_iload X dX12_blind_99 5 rfl ?_
              obtain ⟨z32, hf⟩ := chk_some hf
              refine x_iald X (i := 61) (n := 60) (sdM_61 hω) (ks_61 _) z32 dX12_blind_101 ?_
              obtain ⟨r33, g34, hf⟩ := bnr_some hf
              refine c_X12_277 X hω g34 (hR := ⟨Nat.le_of_ble_eq_true rfl, Nat.le_of_ble_eq_true rfl⟩) ⟨Nat.zero_le _, Nat.zero_le _⟩ (Nat.le_of_ble_eq_true rfl) dX12_blind_102 ?_
              refine x_lv [1, 2, 3, 5] rfl ?_
              exact k_X12_blind_105 hω X R _ ih h17 _ _ _ _ hf
    · replace hf := (if_neg c9).symm.trans hf
      refine x_iload_n X dX12_blind_112 3 rfl rfl ?_
      exact x_retSI X R hf dX12_blind_113
set_option maxRecDepth 100000 in
set_option maxHeartbeats 4000000 in
theorem k_X12_blind {ω : XO} (hω : ω.2.2.2.1 = 0) {L : List Nat} {q : Nat → Nat} {h h' : hp} {p0 : Int32} {p1 : Int32} {r : Int32} (hf : f_X12_blind h p0 p1 = some (h', r)) : XM ω yX12_blind cX12_blind 6 (some .int) rm_X12_blind L q h [.ref (q 52), .int p0, .int p1] (some (.int r)) h' := by
  refine XM_intro [(0, .ref (q 52)), (1, .int p0), (2, .int p1)] "SignalBlindModel" (by decide) rfl rfl (Nat.le_of_ble_eq_true rfl) (fun κ X R => ?_)
  unfold f_X12_blind at hf
  refine x_iload_n X dX12_blind_0 2 rfl rfl ?_
  refine x_istore_n X [(3, .int p1), (0, .ref (q 52)), (1, .int p0), (2, .int p1)] dX12_blind_1 rfl (Nat.le_of_ble_eq_true rfl) rfl ?_
  refine x_aload_n X dX12_blind_2 1 rfl rfl ?_
  obtain ⟨r1, g2, hf⟩ := bnr_some hf
  refine c_X12_261 X hω g2 (hR := ⟨Nat.le_of_ble_eq_true rfl, Nat.le_of_ble_eq_true rfl⟩) ⟨Nat.zero_le _, Nat.zero_le _⟩ (Nat.le_of_ble_eq_true rfl) dX12_blind_3 ?_
  refine x_istore X [(4, .int r1), (3, .int p1), (0, .ref (q 52)), (1, .int p0), (2, .int p1)] dX12_blind_6 (Nat.le_of_ble_eq_true rfl) rfl ?_
  refine x_lv [2, 3, 4, 1, 0] rfl ?_
  exact k_X12_blind_8 hω X R _ h _ _ _ _ hf
theorem mt_X12_blind : MT yX12_blind cX12_blind 6 (some .int) "SignalBlindModel" 2 := ⟨(mT_6 98 rfl rfl), (mTp (q := (yX12_blind, 61)) (by decide +kernel) rfl), (mT_1 10 rfl rfl), (mT_6 99 rfl rfl), by decide⟩
theorem c_X12_281 {ω : XO} {rm : Room} {nL : Nat} {κ : XK} {cc : ByteArray} (X : XC ω rm nL κ cc "SignalBlindModel") (hω : ω.2.2.2.1 = 0) {L : List Nat} {q : Nat → Nat} {h h' : hp} {cells slots pc : Nat} {lv : List (Nat × Value)} {rest : List Value} {p0 : Int32} {p1 : Int32} {r : Int32} (hf : f_X12_blind h p0 p1 = some (h', r)) (hR : rm_X12_blind.frames + 1 ≤ rm.frames ∧ 8 + (6 + 11) + rm_X12_blind.locals ≤ rm.locals) (hcs : cells ≤ rm.cells ∧ slots ≤ rm.slots) (hroom : (rest.map fun v => v.category).sum ≤ 8) (hd : decode cc pc = .ok (.invokevirtual 281, 3)) (kk : XG ω rm nL κ L q h' cells slots (pc + 3) lv (.int r :: rest)) : XG ω rm nL κ L q h cells slots pc lv (.int p1 :: .int p0 :: .ref (q 52) :: rest) := x_callV X [.int p0, .int p1] rest (k_X12_blind hω hf) mt_X12_blind (mT_6 96 rfl rfl) hR ⟨rfl, rfl⟩ hcs (sdM_52 hω) (ks_52 _) (by decide) rfl rfl hroom hd kk

abbrev rm_X12_showsOf : Room := { frames := 5, cells := 0, slots := 0, locals := 121 }
def f_X12_showsOf_105 (h : hp) (a19 : Int32) : Option (hp × Int32) := (some (h, a19))
def f_X12_showsOf (h : hp) (p0 : Int32) (p1 : Int32) : Option (hp × Int32) := (bnd (f_X12_blind h p0 p1) fun h1 r2 =>
 (chk p0 5
 (if (aI h1 54 (p0).toNatClampNeg) = (1 : Int32) then
 (bnr (f_X12_turned h1 r2 (1 : Int32)) fun r6 =>
 (some (h1, r6)))
 else
 (if (aI h1 54 (p0).toNatClampNeg) = (2 : Int32) then
 (some (h1, (r2 &&& (341 : Int32))))
 else
 (if (aI h1 54 (p0).toNatClampNeg) = (3 : Int32) then
 (chk p0 5
 (some (h1, (r2 ^^^ ((1 : Int32) <<< ((aI h1 55 (p0).toNatClampNeg) &&& 31))))))
 else
 (if (aI h1 54 (p0).toNatClampNeg) = (4 : Int32) then
 (bnr (f_X12_turned h1 r2 (1 : Int32)) fun r12 =>
 (bnr (f_X12_mirrored h1 r12) fun r14 =>
 (some (h1, r14))))
 else
 (if (aI h1 54 (p0).toNatClampNeg) = (5 : Int32) then
 (nz (2 : Int32)
 (if ((hI h1 52 2) - (hI h1 52 2) / (2 : Int32) * (2 : Int32)) = 0 then
 (f_X12_showsOf_105 h1 (r2 &&& (341 : Int32)))
 else
 (f_X12_showsOf_105 h1 r2)))
 else
 (if (aI h1 54 (p0).toNatClampNeg) = (6 : Int32) then
 (chk p0 5
 (nz (4 : Int32)
 (chk (((4 : Int32) * p0) + ((hI h1 52 2) - (hI h1 52 2) / (4 : Int32) * (4 : Int32))) 20
 (some (h1, ((r2 ^^^ ((1 : Int32) <<< ((aI h1 55 (p0).toNatClampNeg) &&& 31))) ^^^ (aI h1 57 ((((4 : Int32) * p0) + ((hI h1 52 2) - (hI h1 52 2) / (4 : Int32) * (4 : Int32)))).toNatClampNeg)))))))
 else
 (some (h1, r2))))))))))
set_option maxRecDepth 100000 in
set_option maxHeartbeats 4000000 in
theorem k_X12_showsOf_105 {ω : XO} (hω : ω.2.2.2.1 = 0) {κ : XK} (X : XC ω rm_X12_showsOf 4 κ cX12_showsOf "SignalBlindModel") {L : List Nat} {q : Nat → Nat} {h' : hp} {r : Int32} (R : XRet ω rm_X12_showsOf κ (some .int) L q h' (some (.int r))) : ∀ (h : hp) (a19 : Int32), f_X12_showsOf_105 h a19 = some (h', r) → XG ω rm_X12_showsOf 4 κ L q h 0 0 105 [] [.int a19] := by
  intro h a19 hf
  unfold f_X12_showsOf_105 at hf
  exact x_retSI X R hf dX12_showsOf_105
set_option maxRecDepth 100000 in
set_option maxHeartbeats 4000000 in
theorem k_X12_showsOf {ω : XO} (hω : ω.2.2.2.1 = 0) {L : List Nat} {q : Nat → Nat} {h h' : hp} {p0 : Int32} {p1 : Int32} {r : Int32} (hf : f_X12_showsOf h p0 p1 = some (h', r)) : XM ω yX12_showsOf cX12_showsOf 4 (some .int) rm_X12_showsOf L q h [.ref (q 52), .int p0, .int p1] (some (.int r)) h' := by
  refine XM_intro [(0, .ref (q 52)), (1, .int p0), (2, .int p1)] "SignalBlindModel" (by decide) rfl rfl (Nat.le_of_ble_eq_true rfl) (fun κ X R => ?_)
  unfold f_X12_showsOf at hf
  refine x_aload_n X dX12_showsOf_0 0 rfl rfl ?_
  refine x_iload_n X dX12_showsOf_1 1 rfl rfl ?_
  refine x_iload_n X dX12_showsOf_2 2 rfl rfl ?_
  obtain ⟨h1, r2, g3, hf⟩ := bnd_some hf
  refine c_X12_281 X hω g3 (hR := ⟨Nat.le_of_ble_eq_true rfl, Nat.le_of_ble_eq_true rfl⟩) ⟨Nat.zero_le _, Nat.zero_le _⟩ (Nat.le_of_ble_eq_true rfl) dX12_showsOf_3 ?_
  refine x_istore_n X [(3, .int r2), (0, .ref (q 52)), (1, .int p0), (2, .int p1)] dX12_showsOf_6 rfl (Nat.le_of_ble_eq_true rfl) rfl ?_
  refine x_aload_n X dX12_showsOf_7 1 rfl rfl ?_
  refine x_getsj X (i := 52) 2 fl_X12_23_13 (sdM_52 hω) (ks_52 _) rfl (j := 54) rfl dX12_showsOf_8 ?_
  refine x_iload_n X dX12_showsOf_11 2 rfl rfl ?_
  obtain ⟨z4, hf⟩ := chk_some hf
  refine x_iald X (i := 54) (n := 5) (sdM_54 hω) (ks_54 _) z4 dX12_showsOf_12 ?_
  by_cases s5 : (aI h1 54 (p0).toNatClampNeg) = (1 : Int32)
  · replace hf := (if_pos s5).symm.trans hf
    refine x_tswI X (off := 39) 52 dX12_showsOf_13 s5 (by decide) (by decide) (by decide) (by decide) ?_
    refine x_aload_n X dX12_showsOf_52 1 rfl rfl ?_
    refine x_iload_n X dX12_showsOf_53 0 rfl rfl ?_
    refine x_iconst X (v := 1) dX12_showsOf_54 (by decide) ?_
    obtain ⟨r6, g7, hf⟩ := bnr_some hf
    refine c_X12_277 X hω g7 (hR := ⟨Nat.le_of_ble_eq_true rfl, Nat.le_of_ble_eq_true rfl⟩) ⟨Nat.zero_le _, Nat.zero_le _⟩ (Nat.le_of_ble_eq_true rfl) dX12_showsOf_55 ?_
    exact x_retSI X R hf dX12_showsOf_58
  · replace hf := (if_neg s5).symm.trans hf
    by_cases s8 : (aI h1 54 (p0).toNatClampNeg) = (2 : Int32)
    · replace hf := (if_pos s8).symm.trans hf
      refine x_tswI X (off := 46) 59 dX12_showsOf_13 s8 (by decide) (by decide) (by decide) (by decide) ?_
      refine x_iload_n X dX12_showsOf_59 0 rfl rfl ?_
      refine x_sipush X (v := 341) dX12_showsOf_60 (by decide) ?_
      refine x_iand X dX12_showsOf_63 ?_
      exact x_retSI X R hf dX12_showsOf_64
    · replace hf := (if_neg s8).symm.trans hf
      by_cases s9 : (aI h1 54 (p0).toNatClampNeg) = (3 : Int32)
      · replace hf := (if_pos s9).symm.trans hf
        refine x_tswI X (off := 52) 65 dX12_showsOf_13 s9 (by decide) (by decide) (by decide) (by decide) ?_
        refine x_iload_n X dX12_showsOf_65 0 rfl rfl ?_
        refine x_iconst X (v := 1) dX12_showsOf_66 (by decide) ?_
        refine x_aload_n X dX12_showsOf_67 1 rfl rfl ?_
        refine x_getsj X (i := 52) 3 fl_X12_26_13 (sdM_52 hω) (ks_52 _) rfl (j := 55) rfl dX12_showsOf_68 ?_
        refine x_iload_n X dX12_showsOf_71 2 rfl rfl ?_
        obtain ⟨z10, hf⟩ := chk_some hf
        refine x_iald X (i := 55) (n := 5) (sdM_55 hω) (ks_55 _) z10 dX12_showsOf_72 ?_
        refine x_ishl X dX12_showsOf_73 ?_
        refine x_ixor X dX12_showsOf_74 ?_
        exact x_retSI X R hf dX12_showsOf_75
      · replace hf := (if_neg s9).symm.trans hf
        by_cases s11 : (aI h1 54 (p0).toNatClampNeg) = (4 : Int32)
        · replace hf := (if_pos s11).symm.trans hf
          refine x_tswI X (off := 63) 76 dX12_showsOf_13 s11 (by decide) (by decide) (by decide) (by decide) ?_
          refine x_aload_n X dX12_showsOf_76 1 rfl rfl ?_
          refine x_aload_n X dX12_showsOf_77 1 rfl rfl ?_
          refine x_iload_n X dX12_showsOf_78 0 rfl rfl ?_
          refine x_iconst X (v := 1) dX12_showsOf_79 (by decide) ?_
          obtain ⟨r12, g13, hf⟩ := bnr_some hf
          refine c_X12_277 X hω g13 (hR := ⟨Nat.le_of_ble_eq_true rfl, Nat.le_of_ble_eq_true rfl⟩) ⟨Nat.zero_le _, Nat.zero_le _⟩ (Nat.le_of_ble_eq_true rfl) dX12_showsOf_80 ?_
          obtain ⟨r14, g15, hf⟩ := bnr_some hf
          refine c_X12_284 X hω g15 (hR := ⟨Nat.le_of_ble_eq_true rfl, Nat.le_of_ble_eq_true rfl⟩) ⟨Nat.zero_le _, Nat.zero_le _⟩ (Nat.le_of_ble_eq_true rfl) dX12_showsOf_83 ?_
          exact x_retSI X R hf dX12_showsOf_86
        · replace hf := (if_neg s11).symm.trans hf
          by_cases s16 : (aI h1 54 (p0).toNatClampNeg) = (5 : Int32)
          · replace hf := (if_pos s16).symm.trans hf
            refine x_tswI X (off := 74) 87 dX12_showsOf_13 s16 (by decide) (by decide) (by decide) (by decide) ?_
            refine x_aload_n X dX12_showsOf_87 1 rfl rfl ?_
            refine x_geti X (i := 52) fl_X12_16_13 (sdM_52 hω) (ks_52 _) rfl dX12_showsOf_88 ?_
            refine x_iconst X (v := 2) dX12_showsOf_91 (by decide) ?_
            obtain ⟨z17, hf⟩ := nz_some hf
            refine x_irem X dX12_showsOf_92 z17 ?_
            refine x_if_ne X 104 dX12_showsOf_93 (by decide) (fun c18 => ?_) (fun c18 => ?_)
            · replace hf := (if_pos c18).symm.trans hf
              refine x_iload_n X dX12_showsOf_96 0 rfl rfl ?_
              refine x_sipush X (v := 341) dX12_showsOf_97 (by decide) ?_
              refine x_iand X dX12_showsOf_100 ?_
              refine x_goto X 105 dX12_showsOf_101 (by decide) ?_
              refine x_lv [] rfl ?_
              exact k_X12_showsOf_105 hω X R h1 _ hf
            · replace hf := (if_neg c18).symm.trans hf
              refine x_iload_n X dX12_showsOf_104 0 rfl rfl ?_
              refine x_lv [] rfl ?_
              exact k_X12_showsOf_105 hω X R h1 _ hf
          · replace hf := (if_neg s16).symm.trans hf
            by_cases s20 : (aI h1 54 (p0).toNatClampNeg) = (6 : Int32)
            · replace hf := (if_pos s20).symm.trans hf
              refine x_tswI X (off := 93) 106 dX12_showsOf_13 s20 (by decide) (by decide) (by decide) (by decide) ?_
              refine x_iload_n X dX12_showsOf_106 0 rfl rfl ?_
              refine x_iconst X (v := 1) dX12_showsOf_107 (by decide) ?_
              refine x_aload_n X dX12_showsOf_108 1 rfl rfl ?_
              refine x_getsj X (i := 52) 3 fl_X12_26_13 (sdM_52 hω) (ks_52 _) rfl (j := 55) rfl dX12_showsOf_109 ?_
              refine x_iload_n X dX12_showsOf_112 2 rfl rfl ?_
              obtain ⟨z21, hf⟩ := chk_some hf
              refine x_iald X (i := 55) (n := 5) (sdM_55 hω) (ks_55 _) z21 dX12_showsOf_113 ?_
              refine x_ishl X dX12_showsOf_114 ?_
              refine x_ixor X dX12_showsOf_115 ?_
              refine x_aload_n X dX12_showsOf_116 1 rfl rfl ?_
              refine x_getsj X (i := 52) 5 fl_X12_32_13 (sdM_52 hω) (ks_52 _) rfl (j := 57) rfl dX12_showsOf_117 ?_
              refine x_iconst X (v := 4) dX12_showsOf_120 (by decide) ?_
              refine x_iload_n X dX12_showsOf_121 2 rfl rfl ?_
              refine x_imul X dX12_showsOf_122 ?_
              refine x_aload_n X dX12_showsOf_123 1 rfl rfl ?_
              refine x_geti X (i := 52) fl_X12_16_13 (sdM_52 hω) (ks_52 _) rfl dX12_showsOf_124 ?_
              refine x_iconst X (v := 4) dX12_showsOf_127 (by decide) ?_
              obtain ⟨z22, hf⟩ := nz_some hf
              refine x_irem X dX12_showsOf_128 z22 ?_
              refine x_iadd X dX12_showsOf_129 ?_
              obtain ⟨z23, hf⟩ := chk_some hf
              refine x_iald X (i := 57) (n := 20) (sdM_57 hω) (ks_57 _) z23 dX12_showsOf_130 ?_
              refine x_ixor X dX12_showsOf_131 ?_
              exact x_retSI X R hf dX12_showsOf_132
            · replace hf := (if_neg s20).symm.trans hf
              refine x_tswO X 133 dX12_showsOf_13 (by have := lv_neT s5 (a := 1) (by decide); have := lv_neT s8 (a := 2) (by decide); have := lv_neT s9 (a := 3) (by decide); have := lv_neT s11 (a := 4) (by decide); have := lv_neT s16 (a := 5) (by decide); have := lv_neT s20 (a := 6) (by decide); omega) (by decide) ?_
              refine x_iload_n X dX12_showsOf_133 0 rfl rfl ?_
              exact x_retSI X R hf dX12_showsOf_134
theorem mt_X12_showsOf : MT yX12_showsOf cX12_showsOf 4 (some .int) "SignalBlindModel" 2 := ⟨(mT_6 94 rfl rfl), (mTp (q := (yX12_showsOf, 61)) (by decide +kernel) rfl), (mT_1 10 rfl rfl), (mT_6 95 rfl rfl), by decide⟩
theorem c_X12_290 {ω : XO} {rm : Room} {nL : Nat} {κ : XK} {cc : ByteArray} (X : XC ω rm nL κ cc "SignalBlindModel") (hω : ω.2.2.2.1 = 0) {L : List Nat} {q : Nat → Nat} {h h' : hp} {cells slots pc : Nat} {lv : List (Nat × Value)} {rest : List Value} {p0 : Int32} {p1 : Int32} {r : Int32} (hf : f_X12_showsOf h p0 p1 = some (h', r)) (hR : rm_X12_showsOf.frames + 1 ≤ rm.frames ∧ 8 + (4 + 11) + rm_X12_showsOf.locals ≤ rm.locals) (hcs : cells ≤ rm.cells ∧ slots ≤ rm.slots) (hroom : (rest.map fun v => v.category).sum ≤ 8) (hd : decode cc pc = .ok (.invokevirtual 290, 3)) (kk : XG ω rm nL κ L q h' cells slots (pc + 3) lv (.int r :: rest)) : XG ω rm nL κ L q h cells slots pc lv (.int p1 :: .int p0 :: .ref (q 52) :: rest) := x_callV X [.int p0, .int p1] rest (k_X12_showsOf hω hf) mt_X12_showsOf (mT_6 92 rfl rfl) hR ⟨rfl, rfl⟩ hcs (sdM_52 hω) (ks_52 _) (by decide) rfl rfl hroom hd kk

abbrev rm_X12_readOf : Room := { frames := 2, cells := 0, slots := 0, locals := 45 }
def f_X12_readOf_52 (h : hp) (k13 : Int32 → Int32 → Int32 → Int32 → Option Int32) (a13 : Int32) (a14 : Int32) (a15 : Int32) (a16 : Int32) : Option Int32 := (nm (a16 + (1 : Int32)) fun v17 =>
 (k13 a13 a14 a15 v17))
def f_X12_readOf_13 (h : hp) : Nat → Int32 → Int32 → Int32 → Int32 → Option Int32
  | 0, _, _, _, _ => none
  | n + 1, a4, a5, a6, a7 => (if a7 < (hI h 52 0) then
 (chk a7 8
 (bnr (f_X12_bits h ((aI h 53 (a7).toNatClampNeg) ^^^ a4)) fun r10 =>
 (if r10 < a6 then
 (f_X12_readOf_52 h (f_X12_readOf_13 h n) a4 a7 r10 a7)
 else
 (f_X12_readOf_52 h (f_X12_readOf_13 h n) a4 a5 a6 a7))))
 else
 (some a5))
def f_X12_readOf (h : hp) (p0 : Int32) : Option Int32 := (bnr (f_X12_near h) fun r1 =>
 (nm (r1 + (1 : Int32)) fun v3 =>
 (f_X12_readOf_13 h 2000 p0 (-5 : Int32) v3 (0 : Int32))))
set_option maxRecDepth 100000 in
set_option maxHeartbeats 4000000 in
theorem k_X12_readOf_52 {ω : XO} (hω : ω.2.2.2.1 = 0) {κ : XK} (X : XC ω rm_X12_readOf 6 κ cX12_readOf "SignalBlindModel") {L : List Nat} {q : Nat → Nat} {h : hp} {r : Int32} (R : XRet ω rm_X12_readOf κ (some .int) L q h (some (.int r))) (k13 : Int32 → Int32 → Int32 → Int32 → Option Int32) (hk13 : ∀ (a4 : Int32) (a5 : Int32) (a6 : Int32) (a7 : Int32), k13 a4 a5 a6 a7 = some r → XG ω rm_X12_readOf 6 κ L q h 0 0 13 [(0, .ref (q 52)), (1, .int a4), (2, .int a5), (3, .int a6), (4, .int a7)] []) : ∀ (a13 : Int32) (a14 : Int32) (a15 : Int32) (a16 : Int32), f_X12_readOf_52 h k13 a13 a14 a15 a16 = some r → XG ω rm_X12_readOf 6 κ L q h 0 0 52 [(0, .ref (q 52)), (1, .int a13), (2, .int a14), (3, .int a15), (4, .int a16)] [] := by
  intro a13 a14 a15 a16 hf
  unfold f_X12_readOf_52 at hf
  obtain ⟨v17, ev17, hf⟩ := nm_some hf
  refine x_iincN X (v := 1) ev17 [(4, .int v17), (0, .ref (q 52)), (1, .int a13), (2, .int a14), (3, .int a15)] dX12_readOf_52 4 rfl (by decide) (Nat.le_of_ble_eq_true rfl) rfl ?_
  refine x_goto X 13 dX12_readOf_55 (by decide) ?_
  refine x_lv [1, 2, 3, 4, 0] rfl ?_
  exact hk13 _ _ _ _ hf
set_option maxRecDepth 100000 in
set_option maxHeartbeats 4000000 in
theorem k_X12_readOf_13 {ω : XO} (hω : ω.2.2.2.1 = 0) {κ : XK} (X : XC ω rm_X12_readOf 6 κ cX12_readOf "SignalBlindModel") {L : List Nat} {q : Nat → Nat} {h : hp} {r : Int32} (R : XRet ω rm_X12_readOf κ (some .int) L q h (some (.int r))) : ∀ (n : Nat) (a4 : Int32) (a5 : Int32) (a6 : Int32) (a7 : Int32), f_X12_readOf_13 h n a4 a5 a6 a7 = some r → XG ω rm_X12_readOf 6 κ L q h 0 0 13 [(0, .ref (q 52)), (1, .int a4), (2, .int a5), (3, .int a6), (4, .int a7)] [] := by
  intro n
  induction n with
  | zero =>
    intro a4 a5 a6 a7 hf
    have hf : (none : Option Int32) = some r := hf
    cases hf
  | succ n ih =>
    intro a4 a5 a6 a7 hf
    rw [f_X12_readOf_13] at hf
    refine x_iload X dX12_readOf_13 4 rfl ?_
    refine x_aload_n X dX12_readOf_15 0 rfl rfl ?_
    refine x_geti X (i := 52) fl_X12_7_13 (sdM_52 hω) (ks_52 _) rfl dX12_readOf_16 ?_
    refine x_icmp_ge X 58 dX12_readOf_19 (by decide) (fun c8 => ?_) (fun c8 => ?_)
    · replace hf := (if_pos c8).symm.trans hf
      refine x_aload_n X dX12_readOf_22 0 rfl rfl ?_
      refine x_aload_n X dX12_readOf_23 0 rfl rfl ?_
      refine x_getsj X (i := 52) 1 fl_X12_19_13 (sdM_52 hω) (ks_52 _) rfl (j := 53) rfl dX12_readOf_24 ?_
      refine x_iload X dX12_readOf_27 4 rfl ?_
      obtain ⟨z9, hf⟩ := chk_some hf
      refine x_iald X (i := 53) (n := 8) (sdM_53 hω) (ks_53 _) z9 dX12_readOf_29 ?_
      refine x_iload_n X dX12_readOf_30 1 rfl rfl ?_
      refine x_ixor X dX12_readOf_31 ?_
      obtain ⟨r10, g11, hf⟩ := bnr_some hf
      refine c_X12_267 X hω g11 (hR := ⟨Nat.le_of_ble_eq_true rfl, Nat.le_of_ble_eq_true rfl⟩) ⟨Nat.zero_le _, Nat.zero_le _⟩ (Nat.le_of_ble_eq_true rfl) dX12_readOf_32 ?_
      refine x_istore X [(5, .int r10), (0, .ref (q 52)), (1, .int a4), (2, .int a5), (3, .int a6), (4, .int a7)] dX12_readOf_35 (Nat.le_of_ble_eq_true rfl) rfl ?_
      refine x_iload X dX12_readOf_37 0 rfl ?_
      refine x_iload_n X dX12_readOf_39 4 rfl rfl ?_
      refine x_icmp_lt X 46 dX12_readOf_40 (by decide) (fun c12 => ?_) (fun c12 => ?_)
      · replace hf := (if_pos c12).symm.trans hf
        refine x_iload X dX12_readOf_46 5 rfl ?_
        refine x_istore_n X [(2, .int a7), (5, .int r10), (0, .ref (q 52)), (1, .int a4), (3, .int a6), (4, .int a7)] dX12_readOf_48 rfl (Nat.le_of_ble_eq_true rfl) rfl ?_
        refine x_iload X dX12_readOf_49 1 rfl ?_
        refine x_istore_n X [(3, .int r10), (2, .int a7), (5, .int r10), (0, .ref (q 52)), (1, .int a4), (4, .int a7)] dX12_readOf_51 rfl (Nat.le_of_ble_eq_true rfl) rfl ?_
        refine x_lv [3, 4, 1, 0, 5] rfl ?_
        exact k_X12_readOf_52 hω X R _ ih _ _ _ _ hf
      · replace hf := (if_neg c12).symm.trans hf
        refine x_goto X 52 dX12_readOf_43 (by decide) ?_
        refine x_lv [1, 2, 3, 4, 5] rfl ?_
        exact k_X12_readOf_52 hω X R _ ih _ _ _ _ hf
    · replace hf := (if_neg c8).symm.trans hf
      refine x_iload_n X dX12_readOf_58 2 rfl rfl ?_
      exact x_retRI X R hf dX12_readOf_59
set_option maxRecDepth 100000 in
set_option maxHeartbeats 4000000 in
theorem k_X12_readOf {ω : XO} (hω : ω.2.2.2.1 = 0) {L : List Nat} {q : Nat → Nat} {h : hp} {p0 : Int32} {r : Int32} (hf : f_X12_readOf h p0 = some r) : XM ω yX12_readOf cX12_readOf 6 (some .int) rm_X12_readOf L q h [.ref (q 52), .int p0] (some (.int r)) h := by
  refine XM_intro [(0, .ref (q 52)), (1, .int p0)] "SignalBlindModel" (by decide) rfl rfl (Nat.le_of_ble_eq_true rfl) (fun κ X R => ?_)
  unfold f_X12_readOf at hf
  refine x_bipush X (v := -5) dX12_readOf_0 (by decide) ?_
  refine x_istore_n X [(2, .int (-5 : Int32)), (0, .ref (q 52)), (1, .int p0)] dX12_readOf_2 rfl (Nat.le_of_ble_eq_true rfl) rfl ?_
  refine x_aload_n X dX12_readOf_3 1 rfl rfl ?_
  obtain ⟨r1, g2, hf⟩ := bnr_some hf
  refine c_X12_287 X hω g2 (hR := ⟨Nat.le_of_ble_eq_true rfl, Nat.le_of_ble_eq_true rfl⟩) ⟨Nat.zero_le _, Nat.zero_le _⟩ (Nat.le_of_ble_eq_true rfl) dX12_readOf_4 ?_
  refine x_iconst X (v := 1) dX12_readOf_7 (by decide) ?_
  refine x_iadd X dX12_readOf_8 ?_
  obtain ⟨v3, ev3, hf⟩ := nm_some hf
  refine x_nmI ev3 ?_
  refine x_istore_n X [(3, .int v3), (2, .int (-5 : Int32)), (0, .ref (q 52)), (1, .int p0)] dX12_readOf_9 rfl (Nat.le_of_ble_eq_true rfl) rfl ?_
  refine x_iconst X (v := 0) dX12_readOf_10 (by decide) ?_
  refine x_istore X [(4, .int (0 : Int32)), (3, .int v3), (2, .int (-5 : Int32)), (0, .ref (q 52)), (1, .int p0)] dX12_readOf_11 (Nat.le_of_ble_eq_true rfl) rfl ?_
  refine x_lv [3, 4, 2, 1, 0] rfl ?_
  exact k_X12_readOf_13 hω X R _ _ _ _ _ hf
theorem mt_X12_readOf : MT yX12_readOf cX12_readOf 6 (some .int) "SignalBlindModel" 1 := ⟨(mT_6 134 rfl rfl), (mTp (q := (yX12_readOf, 61)) (by decide +kernel) rfl), (mT_1 10 rfl rfl), (mT_6 135 rfl rfl), by decide⟩
theorem c_X12_293 {ω : XO} {rm : Room} {nL : Nat} {κ : XK} {cc : ByteArray} (X : XC ω rm nL κ cc "SignalBlindModel") (hω : ω.2.2.2.1 = 0) {L : List Nat} {q : Nat → Nat} {h : hp} {cells slots pc : Nat} {lv : List (Nat × Value)} {rest : List Value} {p0 : Int32} {r : Int32} (hf : f_X12_readOf h p0 = some r) (hR : rm_X12_readOf.frames + 1 ≤ rm.frames ∧ 8 + (6 + 11) + rm_X12_readOf.locals ≤ rm.locals) (hcs : cells ≤ rm.cells ∧ slots ≤ rm.slots) (hroom : (rest.map fun v => v.category).sum ≤ 8) (hd : decode cc pc = .ok (.invokevirtual 293, 3)) (kk : XG ω rm nL κ L q h cells slots (pc + 3) lv (.int r :: rest)) : XG ω rm nL κ L q h cells slots pc lv (.int p0 :: .ref (q 52) :: rest) := x_callV X [.int p0] rest (k_X12_readOf hω hf) mt_X12_readOf (mT_6 132 rfl rfl) hR ⟨rfl, rfl⟩ hcs (sdM_52 hω) (ks_52 _) (by decide) rfl rfl hroom hd kk

abbrev rm_X12_isThrough : Room := { frames := 6, cells := 0, slots := 0, locals := 144 }
def f_X12_isThrough_24 (h : hp) (a8 : Int32) : Option (hp × Int32) := (ckZ a8
 (some (h, a8)))
def f_X12_isThrough (h : hp) (p0 : Int32) (p1 : Int32) : Option (hp × Int32) := (chk p1 8
 (bnd (f_X12_showsOf h p0 (aI h 53 (p1).toNatClampNeg)) fun h2 r3 =>
 (bnr (f_X12_readOf h2 r3) fun r5 =>
 (if r5 = p1 then
 (f_X12_isThrough_24 h2 (1 : Int32))
 else
 (f_X12_isThrough_24 h2 (0 : Int32))))))
set_option maxRecDepth 100000 in
set_option maxHeartbeats 4000000 in
theorem k_X12_isThrough_24 {ω : XO} (hω : ω.2.2.2.1 = 0) {κ : XK} (X : XC ω rm_X12_isThrough 3 κ cX12_isThrough "SignalBlindModel") {L : List Nat} {q : Nat → Nat} {h' : hp} {r : Int32} (R : XRet ω rm_X12_isThrough κ (some .boolean) L q h' (some (.int r))) : ∀ (h : hp) (a8 : Int32), f_X12_isThrough_24 h a8 = some (h', r) → XG ω rm_X12_isThrough 3 κ L q h 0 0 24 [] [.int a8] := by
  intro h a8 hf
  unfold f_X12_isThrough_24 at hf
  obtain ⟨z9, hf⟩ := ckZ_some hf
  exact x_retSZ X R z9 hf dX12_isThrough_24
set_option maxRecDepth 100000 in
set_option maxHeartbeats 4000000 in
theorem k_X12_isThrough {ω : XO} (hω : ω.2.2.2.1 = 0) {L : List Nat} {q : Nat → Nat} {h h' : hp} {p0 : Int32} {p1 : Int32} {r : Int32} (hf : f_X12_isThrough h p0 p1 = some (h', r)) : XM ω yX12_isThrough cX12_isThrough 3 (some .boolean) rm_X12_isThrough L q h [.ref (q 52), .int p0, .int p1] (some (.int r)) h' := by
  refine XM_intro [(0, .ref (q 52)), (1, .int p0), (2, .int p1)] "SignalBlindModel" (by decide) rfl rfl (Nat.le_of_ble_eq_true rfl) (fun κ X R => ?_)
  unfold f_X12_isThrough at hf
  refine x_aload_n X dX12_isThrough_0 0 rfl rfl ?_
  refine x_aload_n X dX12_isThrough_1 0 rfl rfl ?_
  refine x_iload_n X dX12_isThrough_2 1 rfl rfl ?_
  refine x_aload_n X dX12_isThrough_3 0 rfl rfl ?_
  refine x_getsj X (i := 52) 1 fl_X12_19_13 (sdM_52 hω) (ks_52 _) rfl (j := 53) rfl dX12_isThrough_4 ?_
  refine x_iload_n X dX12_isThrough_7 2 rfl rfl ?_
  obtain ⟨z1, hf⟩ := chk_some hf
  refine x_iald X (i := 53) (n := 8) (sdM_53 hω) (ks_53 _) z1 dX12_isThrough_8 ?_
  obtain ⟨h2, r3, g4, hf⟩ := bnd_some hf
  refine c_X12_290 X hω g4 (hR := ⟨Nat.le_of_ble_eq_true rfl, Nat.le_of_ble_eq_true rfl⟩) ⟨Nat.zero_le _, Nat.zero_le _⟩ (Nat.le_of_ble_eq_true rfl) dX12_isThrough_9 ?_
  obtain ⟨r5, g6, hf⟩ := bnr_some hf
  refine c_X12_293 X hω g6 (hR := ⟨Nat.le_of_ble_eq_true rfl, Nat.le_of_ble_eq_true rfl⟩) ⟨Nat.zero_le _, Nat.zero_le _⟩ (Nat.le_of_ble_eq_true rfl) dX12_isThrough_12 ?_
  refine x_iload_n X dX12_isThrough_15 2 rfl rfl ?_
  refine x_icmp_ne X 23 dX12_isThrough_16 (by decide) (fun c7 => ?_) (fun c7 => ?_)
  · replace hf := (if_pos c7).symm.trans hf
    refine x_iconst X (v := 1) dX12_isThrough_19 (by decide) ?_
    refine x_goto X 24 dX12_isThrough_20 (by decide) ?_
    refine x_lv [] rfl ?_
    exact k_X12_isThrough_24 hω X R h2 _ hf
  · replace hf := (if_neg c7).symm.trans hf
    refine x_iconst X (v := 0) dX12_isThrough_23 (by decide) ?_
    refine x_lv [] rfl ?_
    exact k_X12_isThrough_24 hω X R h2 _ hf
theorem mt_X12_isThrough : MT yX12_isThrough cX12_isThrough 3 (some .boolean) "SignalBlindModel" 2 := ⟨(mT_6 90 rfl rfl), (mTp (q := (yX12_isThrough, 61)) (by decide +kernel) rfl), (mT_1 10 rfl rfl), (mT_6 91 rfl rfl), by decide⟩
theorem c_X12_296 {ω : XO} {rm : Room} {nL : Nat} {κ : XK} {cc : ByteArray} (X : XC ω rm nL κ cc "SignalBlindModel") (hω : ω.2.2.2.1 = 0) {L : List Nat} {q : Nat → Nat} {h h' : hp} {cells slots pc : Nat} {lv : List (Nat × Value)} {rest : List Value} {p0 : Int32} {p1 : Int32} {r : Int32} (hf : f_X12_isThrough h p0 p1 = some (h', r)) (hR : rm_X12_isThrough.frames + 1 ≤ rm.frames ∧ 8 + (3 + 11) + rm_X12_isThrough.locals ≤ rm.locals) (hcs : cells ≤ rm.cells ∧ slots ≤ rm.slots) (hroom : (rest.map fun v => v.category).sum ≤ 8) (hd : decode cc pc = .ok (.invokevirtual 296, 3)) (kk : XG ω rm nL κ L q h' cells slots (pc + 3) lv (.int r :: rest)) : XG ω rm nL κ L q h cells slots pc lv (.int p1 :: .int p0 :: .ref (q 52) :: rest) := x_callV X [.int p0, .int p1] rest (k_X12_isThrough hω hf) mt_X12_isThrough (mT_6 88 rfl rfl) hR ⟨rfl, rfl⟩ hcs (sdM_52 hω) (ks_52 _) (by decide) rfl rfl hroom hd kk

abbrev rm_X12_through : Room := { frames := 7, cells := 0, slots := 0, locals := 166 }
def f_X12_through_29 (k4 : hp → Int32 → Int32 → Int32 → Option (hp × Int32)) (h : hp) (a9 : Int32) (a10 : Int32) (a11 : Int32) (a12 : Int32) : Option (hp × Int32) := (nm (a12 ||| a11) fun v13 =>
 (nm (a10 + (1 : Int32)) fun v14 =>
 (k4 h a9 v13 v14)))
def f_X12_through_4 : Nat → hp → Int32 → Int32 → Int32 → Option (hp × Int32)
  | 0, _, _, _, _ => none
  | n + 1, h, a1, a2, a3 => (if a3 < (hI h 52 0) then
 (bnd (f_X12_isThrough h a1 a3) fun h5 r6 =>
 (if r6 = 0 then
 (f_X12_through_29 (f_X12_through_4 n) h5 a1 a3 (0 : Int32) a2)
 else
 (f_X12_through_29 (f_X12_through_4 n) h5 a1 a3 ((1 : Int32) <<< (a3 &&& 31)) a2)))
 else
 (some (h, a2)))
def f_X12_through (h : hp) (p0 : Int32) : Option (hp × Int32) := (f_X12_through_4 2000 h p0 (0 : Int32) (0 : Int32))
set_option maxRecDepth 100000 in
set_option maxHeartbeats 4000000 in
theorem k_X12_through_29 {ω : XO} (hω : ω.2.2.2.1 = 0) {κ : XK} (X : XC ω rm_X12_through 4 κ cX12_through "SignalBlindModel") {L : List Nat} {q : Nat → Nat} {h' : hp} {r : Int32} (R : XRet ω rm_X12_through κ (some .int) L q h' (some (.int r))) (k4 : hp → Int32 → Int32 → Int32 → Option (hp × Int32)) (hk4 : ∀ (h : hp) (a1 : Int32) (a2 : Int32) (a3 : Int32), k4 h a1 a2 a3 = some (h', r) → XG ω rm_X12_through 4 κ L q h 0 0 4 [(0, .ref (q 52)), (1, .int a1), (2, .int a2), (3, .int a3)] []) : ∀ (h : hp) (a9 : Int32) (a10 : Int32) (a11 : Int32) (a12 : Int32), f_X12_through_29 k4 h a9 a10 a11 a12 = some (h', r) → XG ω rm_X12_through 4 κ L q h 0 0 29 [(0, .ref (q 52)), (1, .int a9), (3, .int a10)] [.int a11, .int a12] := by
  intro h a9 a10 a11 a12 hf
  unfold f_X12_through_29 at hf
  refine x_ior X dX12_through_29 ?_
  obtain ⟨v13, ev13, hf⟩ := nm_some hf
  refine x_nmI ev13 ?_
  refine x_istore_n X [(2, .int v13), (0, .ref (q 52)), (1, .int a9), (3, .int a10)] dX12_through_30 rfl (Nat.le_of_ble_eq_true rfl) rfl ?_
  obtain ⟨v14, ev14, hf⟩ := nm_some hf
  refine x_iincN X (v := 1) ev14 [(3, .int v14), (2, .int v13), (0, .ref (q 52)), (1, .int a9)] dX12_through_31 3 rfl (by decide) (Nat.le_of_ble_eq_true rfl) rfl ?_
  refine x_goto X 4 dX12_through_34 (by decide) ?_
  refine x_lv [2, 3, 1, 0] rfl ?_
  exact hk4 h _ _ _ hf
set_option maxRecDepth 100000 in
set_option maxHeartbeats 4000000 in
theorem k_X12_through_4 {ω : XO} (hω : ω.2.2.2.1 = 0) {κ : XK} (X : XC ω rm_X12_through 4 κ cX12_through "SignalBlindModel") {L : List Nat} {q : Nat → Nat} {h' : hp} {r : Int32} (R : XRet ω rm_X12_through κ (some .int) L q h' (some (.int r))) : ∀ (n : Nat) (h : hp) (a1 : Int32) (a2 : Int32) (a3 : Int32), f_X12_through_4 n h a1 a2 a3 = some (h', r) → XG ω rm_X12_through 4 κ L q h 0 0 4 [(0, .ref (q 52)), (1, .int a1), (2, .int a2), (3, .int a3)] [] := by
  intro n
  induction n with
  | zero =>
    intro h a1 a2 a3 hf
    have hf : (none : Option (hp × Int32)) = some (h', r) := hf
    cases hf
  | succ n ih =>
    intro h a1 a2 a3 hf
    rw [f_X12_through_4] at hf
    refine x_iload_n X dX12_through_4 3 rfl rfl ?_
    refine x_aload_n X dX12_through_5 0 rfl rfl ?_
    refine x_geti X (i := 52) fl_X12_7_13 (sdM_52 hω) (ks_52 _) rfl dX12_through_6 ?_
    refine x_icmp_ge X 37 dX12_through_9 (by decide) (fun c4 => ?_) (fun c4 => ?_)
    · replace hf := (if_pos c4).symm.trans hf
      refine x_iload_n X dX12_through_12 2 rfl rfl ?_
      refine x_aload_n X dX12_through_13 0 rfl rfl ?_
      refine x_iload_n X dX12_through_14 1 rfl rfl ?_
      refine x_iload_n X dX12_through_15 3 rfl rfl ?_
      obtain ⟨h5, r6, g7, hf⟩ := bnd_some hf
      refine c_X12_296 X hω g7 (hR := ⟨Nat.le_of_ble_eq_true rfl, Nat.le_of_ble_eq_true rfl⟩) ⟨Nat.zero_le _, Nat.zero_le _⟩ (Nat.le_of_ble_eq_true rfl) dX12_through_16 ?_
      refine x_if_eq X 28 dX12_through_19 (by decide) (fun c8 => ?_) (fun c8 => ?_)
      · replace hf := (if_pos c8).symm.trans hf
        refine x_iconst X (v := 0) dX12_through_28 (by decide) ?_
        refine x_lv [0, 1, 3] rfl ?_
        exact k_X12_through_29 hω X R _ ih h5 _ _ _ _ hf
      · replace hf := (if_neg c8).symm.trans hf
        refine x_iconst X (v := 1) dX12_through_22 (by decide) ?_
        refine x_iload_n X dX12_through_23 3 rfl rfl ?_
        refine x_ishl X dX12_through_24 ?_
        refine x_goto X 29 dX12_through_25 (by decide) ?_
        refine x_lv [0, 1, 3] rfl ?_
        exact k_X12_through_29 hω X R _ ih h5 _ _ _ _ hf
    · replace hf := (if_neg c4).symm.trans hf
      refine x_iload_n X dX12_through_37 2 rfl rfl ?_
      exact x_retSI X R hf dX12_through_38
set_option maxRecDepth 100000 in
set_option maxHeartbeats 4000000 in
theorem k_X12_through {ω : XO} (hω : ω.2.2.2.1 = 0) {L : List Nat} {q : Nat → Nat} {h h' : hp} {p0 : Int32} {r : Int32} (hf : f_X12_through h p0 = some (h', r)) : XM ω yX12_through cX12_through 4 (some .int) rm_X12_through L q h [.ref (q 52), .int p0] (some (.int r)) h' := by
  refine XM_intro [(0, .ref (q 52)), (1, .int p0)] "SignalBlindModel" (by decide) rfl rfl (Nat.le_of_ble_eq_true rfl) (fun κ X R => ?_)
  unfold f_X12_through at hf
  refine x_iconst X (v := 0) dX12_through_0 (by decide) ?_
  refine x_istore_n X [(2, .int (0 : Int32)), (0, .ref (q 52)), (1, .int p0)] dX12_through_1 rfl (Nat.le_of_ble_eq_true rfl) rfl ?_
  refine x_iconst X (v := 0) dX12_through_2 (by decide) ?_
  refine x_istore_n X [(3, .int (0 : Int32)), (2, .int (0 : Int32)), (0, .ref (q 52)), (1, .int p0)] dX12_through_3 rfl (Nat.le_of_ble_eq_true rfl) rfl ?_
  refine x_lv [2, 3, 1, 0] rfl ?_
  exact k_X12_through_4 hω X R _ h _ _ _ hf
theorem mt_X12_through : MT yX12_through cX12_through 4 (some .int) "SignalBlindModel" 1 := ⟨(mT_6 86 rfl rfl), (mTp (q := (yX12_through, 61)) (by decide +kernel) rfl), (mT_1 10 rfl rfl), (mT_6 87 rfl rfl), by decide⟩
theorem c_X12_299 {ω : XO} {rm : Room} {nL : Nat} {κ : XK} {cc : ByteArray} (X : XC ω rm nL κ cc "SignalBlindModel") (hω : ω.2.2.2.1 = 0) {L : List Nat} {q : Nat → Nat} {h h' : hp} {cells slots pc : Nat} {lv : List (Nat × Value)} {rest : List Value} {p0 : Int32} {r : Int32} (hf : f_X12_through h p0 = some (h', r)) (hR : rm_X12_through.frames + 1 ≤ rm.frames ∧ 8 + (4 + 11) + rm_X12_through.locals ≤ rm.locals) (hcs : cells ≤ rm.cells ∧ slots ≤ rm.slots) (hroom : (rest.map fun v => v.category).sum ≤ 8) (hd : decode cc pc = .ok (.invokevirtual 299, 3)) (kk : XG ω rm nL κ L q h' cells slots (pc + 3) lv (.int r :: rest)) : XG ω rm nL κ L q h cells slots pc lv (.int p0 :: .ref (q 52) :: rest) := x_callV X [.int p0] rest (k_X12_through hω hf) mt_X12_through (mT_6 84 rfl rfl) hR ⟨rfl, rfl⟩ hcs (sdM_52 hω) (ks_52 _) (by decide) rfl rfl hroom hd kk

abbrev rm_X12_clear : Room := { frames := 6, cells := 0, slots := 0, locals := 144 }
def f_X12_clear_75 (k53 : hp → Int32 → Int32 → Option (hp × Int32)) (h : hp) (a21 : Int32) (a22 : Int32) (a23 : Int32) : Option (hp × Int32) := (nm (a23 + a22) fun v24 =>
 (nm (a21 + (1 : Int32)) fun v25 =>
 (k53 h v24 v25)))
def f_X12_clear_53 : Nat → hp → Int32 → Int32 → Option (hp × Int32)
  | 0, _, _, _ => none
  | n + 1, h, a16, a17 => (if a17 < (1024 : Int32) then
 (chk a17 1024
 (if (aI h 68 (a17).toNatClampNeg) = 0 then
 (f_X12_clear_75 (f_X12_clear_53 n) h a17 (0 : Int32) a16)
 else
 (f_X12_clear_75 (f_X12_clear_53 n) h a17 (1 : Int32) a16)))
 else
 (some (h, a16)))
def f_X12_clear_24 : Nat → hp → Int32 → Int32 → Option (hp × Int32)
  | 0, _, _, _ => none
  | n + 1, h, a7, a8 => (if a8 < (1024 : Int32) then
 (bnd (f_X12_showsOf h a7 a8) fun h10 r11 =>
 (chk r11 1024
 (nm (tI h10 68 (r11).toNatClampNeg (vp_nar .boolean (1 : Int32))) fun h14 =>
 (nm (a8 + (1 : Int32)) fun v15 =>
 ((f_X12_clear_24 n) h14 a7 v15)))))
 else
 (f_X12_clear_53 2000 h (0 : Int32) (0 : Int32)))
def f_X12_clear_2 : Nat → hp → Int32 → Int32 → Option (hp × Int32)
  | 0, _, _, _ => none
  | n + 1, h, a1, a2 => (if a2 < (1024 : Int32) then
 (chk a2 1024
 (nm (tI h 68 (a2).toNatClampNeg (vp_nar .boolean (0 : Int32))) fun h5 =>
 (nm (a2 + (1 : Int32)) fun v6 =>
 ((f_X12_clear_2 n) h5 a1 v6))))
 else
 (f_X12_clear_24 2000 h a1 (0 : Int32)))
def f_X12_clear (h : hp) (p0 : Int32) : Option (hp × Int32) := (f_X12_clear_2 2000 h p0 (0 : Int32))
set_option maxRecDepth 100000 in
set_option maxHeartbeats 4000000 in
theorem k_X12_clear_75 {ω : XO} (hω : ω.2.2.2.1 = 0) {κ : XK} (X : XC ω rm_X12_clear 4 κ cX12_clear "SignalBlindModel") {L : List Nat} {q : Nat → Nat} {h' : hp} {r : Int32} (R : XRet ω rm_X12_clear κ (some .int) L q h' (some (.int r))) (k53 : hp → Int32 → Int32 → Option (hp × Int32)) (hk53 : ∀ (h : hp) (a16 : Int32) (a17 : Int32), k53 h a16 a17 = some (h', r) → XG ω rm_X12_clear 4 κ L q h 0 0 53 [(0, .ref (q 52)), (2, .int a16), (3, .int a17)] []) : ∀ (h : hp) (a21 : Int32) (a22 : Int32) (a23 : Int32), f_X12_clear_75 k53 h a21 a22 a23 = some (h', r) → XG ω rm_X12_clear 4 κ L q h 0 0 75 [(0, .ref (q 52)), (3, .int a21)] [.int a22, .int a23] := by
  intro h a21 a22 a23 hf
  unfold f_X12_clear_75 at hf
  refine x_iadd X dX12_clear_75 ?_
  obtain ⟨v24, ev24, hf⟩ := nm_some hf
  refine x_nmI ev24 ?_
  refine x_istore_n X [(2, .int v24), (0, .ref (q 52)), (3, .int a21)] dX12_clear_76 rfl (Nat.le_of_ble_eq_true rfl) rfl ?_
  obtain ⟨v25, ev25, hf⟩ := nm_some hf
  refine x_iincN X (v := 1) ev25 [(3, .int v25), (2, .int v24), (0, .ref (q 52))] dX12_clear_77 2 rfl (by decide) (Nat.le_of_ble_eq_true rfl) rfl ?_
  refine x_goto X 53 dX12_clear_80 (by decide) ?_
  refine x_lv [2, 1, 0] rfl ?_
  exact hk53 h _ _ hf
set_option maxRecDepth 100000 in
set_option maxHeartbeats 4000000 in
theorem k_X12_clear_53 {ω : XO} (hω : ω.2.2.2.1 = 0) {κ : XK} (X : XC ω rm_X12_clear 4 κ cX12_clear "SignalBlindModel") {L : List Nat} {q : Nat → Nat} {h' : hp} {r : Int32} (R : XRet ω rm_X12_clear κ (some .int) L q h' (some (.int r))) : ∀ (n : Nat) (h : hp) (a16 : Int32) (a17 : Int32), f_X12_clear_53 n h a16 a17 = some (h', r) → XG ω rm_X12_clear 4 κ L q h 0 0 53 [(0, .ref (q 52)), (2, .int a16), (3, .int a17)] [] := by
  intro n
  induction n with
  | zero =>
    intro h a16 a17 hf
    have hf : (none : Option (hp × Int32)) = some (h', r) := hf
    cases hf
  | succ n ih =>
    intro h a16 a17 hf
    rw [f_X12_clear_53] at hf
    refine x_iload_n X dX12_clear_53 2 rfl rfl ?_
    refine x_sipush X (v := 1024) dX12_clear_54 (by decide) ?_
    refine x_icmp_ge X 83 dX12_clear_57 (by decide) (fun c18 => ?_) (fun c18 => ?_)
    · replace hf := (if_pos c18).symm.trans hf
      refine x_iload_n X dX12_clear_60 1 rfl rfl ?_
      refine x_aload_n X dX12_clear_61 0 rfl rfl ?_
      refine x_getsj X (i := 52) 16 fl_X12_90_13 (sdM_52 hω) (ks_52 _) rfl (j := 68) rfl dX12_clear_62 ?_
      refine x_iload_n X dX12_clear_65 2 rfl rfl ?_
      obtain ⟨z19, hf⟩ := chk_some hf
      refine x_zald X (i := 68) (n := 1024) (sdM_68 hω) (ks_68 _) z19 dX12_clear_66 ?_
      refine x_if_eq X 74 dX12_clear_67 (by decide) (fun c20 => ?_) (fun c20 => ?_)
      · replace hf := (if_pos c20).symm.trans hf
        refine x_iconst X (v := 0) dX12_clear_74 (by decide) ?_
        refine x_lv [0, 2] rfl ?_
        exact k_X12_clear_75 hω X R _ ih h _ _ _ hf
      · replace hf := (if_neg c20).symm.trans hf
        refine x_iconst X (v := 1) dX12_clear_70 (by decide) ?_
        refine x_goto X 75 dX12_clear_71 (by decide) ?_
        refine x_lv [0, 2] rfl ?_
        exact k_X12_clear_75 hω X R _ ih h _ _ _ hf
    · replace hf := (if_neg c18).symm.trans hf
      refine x_iload_n X dX12_clear_83 1 rfl rfl ?_
      exact x_retSI X R hf dX12_clear_84
set_option maxRecDepth 100000 in
set_option maxHeartbeats 4000000 in
theorem k_X12_clear_24 {ω : XO} (hω : ω.2.2.2.1 = 0) {κ : XK} (X : XC ω rm_X12_clear 4 κ cX12_clear "SignalBlindModel") {L : List Nat} {q : Nat → Nat} {h' : hp} {r : Int32} (R : XRet ω rm_X12_clear κ (some .int) L q h' (some (.int r))) : ∀ (n : Nat) (h : hp) (a7 : Int32) (a8 : Int32), f_X12_clear_24 n h a7 a8 = some (h', r) → XG ω rm_X12_clear 4 κ L q h 0 0 24 [(0, .ref (q 52)), (1, .int a7), (2, .int a8)] [] := by
  intro n
  induction n with
  | zero =>
    intro h a7 a8 hf
    have hf : (none : Option (hp × Int32)) = some (h', r) := hf
    cases hf
  | succ n ih =>
    intro h a7 a8 hf
    rw [f_X12_clear_24] at hf
    refine x_iload_n X dX12_clear_24 2 rfl rfl ?_
    refine x_sipush X (v := 1024) dX12_clear_25 (by decide) ?_
    refine x_icmp_ge X 49 dX12_clear_28 (by decide) (fun c9 => ?_) (fun c9 => ?_)
    · replace hf := (if_pos c9).symm.trans hf
      refine x_aload_n X dX12_clear_31 0 rfl rfl ?_
      refine x_getsj X (i := 52) 16 fl_X12_90_13 (sdM_52 hω) (ks_52 _) rfl (j := 68) rfl dX12_clear_32 ?_
      refine x_aload_n X dX12_clear_35 0 rfl rfl ?_
      refine x_iload_n X dX12_clear_36 1 rfl rfl ?_
      refine x_iload_n X dX12_clear_37 2 rfl rfl ?_
      obtain ⟨h10, r11, g12, hf⟩ := bnd_some hf
      refine c_X12_290 X hω g12 (hR := ⟨Nat.le_of_ble_eq_true rfl, Nat.le_of_ble_eq_true rfl⟩) ⟨Nat.zero_le _, Nat.zero_le _⟩ (Nat.le_of_ble_eq_true rfl) dX12_clear_38 ?_
      refine x_iconst X (v := 1) dX12_clear_41 (by decide) ?_
      obtain ⟨z13, hf⟩ := chk_some hf
      refine x_zast X (i := 68) (n := 1024) (sdM_68 hω) (ks_68 _) z13 dX12_clear_42 ?_
      obtain ⟨h14, eh14, hf⟩ := nm_some hf
      refine x_nmh eh14 ?_
      obtain ⟨v15, ev15, hf⟩ := nm_some hf
      refine x_iincN X (v := 1) ev15 [(2, .int v15), (0, .ref (q 52)), (1, .int a7)] dX12_clear_43 2 rfl (by decide) (Nat.le_of_ble_eq_true rfl) rfl ?_
      refine x_goto X 24 dX12_clear_46 (by decide) ?_
      refine x_lv [1, 2, 0] rfl ?_
      exact ih h14 _ _ hf
    · replace hf := (if_neg c9).symm.trans hf
      refine x_iconst X (v := 0) dX12_clear_49 (by decide) ?_
      refine x_istore_n X [(2, .int (0 : Int32)), (0, .ref (q 52)), (1, .int a7)] dX12_clear_50 rfl (Nat.le_of_ble_eq_true rfl) rfl ?_
      refine x_iconst X (v := 0) dX12_clear_51 (by decide) ?_
      refine x_istore_n X [(3, .int (0 : Int32)), (2, .int (0 : Int32)), (0, .ref (q 52)), (1, .int a7)] dX12_clear_52 rfl (Nat.le_of_ble_eq_true rfl) rfl ?_
      refine x_lv [2, 1, 0] rfl ?_
      exact k_X12_clear_53 hω X R _ h _ _ hf
set_option maxRecDepth 100000 in
set_option maxHeartbeats 4000000 in
theorem k_X12_clear_2 {ω : XO} (hω : ω.2.2.2.1 = 0) {κ : XK} (X : XC ω rm_X12_clear 4 κ cX12_clear "SignalBlindModel") {L : List Nat} {q : Nat → Nat} {h' : hp} {r : Int32} (R : XRet ω rm_X12_clear κ (some .int) L q h' (some (.int r))) : ∀ (n : Nat) (h : hp) (a1 : Int32) (a2 : Int32), f_X12_clear_2 n h a1 a2 = some (h', r) → XG ω rm_X12_clear 4 κ L q h 0 0 2 [(0, .ref (q 52)), (1, .int a1), (2, .int a2)] [] := by
  intro n
  induction n with
  | zero =>
    intro h a1 a2 hf
    have hf : (none : Option (hp × Int32)) = some (h', r) := hf
    cases hf
  | succ n ih =>
    intro h a1 a2 hf
    rw [f_X12_clear_2] at hf
    refine x_iload_n X dX12_clear_2 2 rfl rfl ?_
    refine x_sipush X (v := 1024) dX12_clear_3 (by decide) ?_
    refine x_icmp_ge X 22 dX12_clear_6 (by decide) (fun c3 => ?_) (fun c3 => ?_)
    · replace hf := (if_pos c3).symm.trans hf
      refine x_aload_n X dX12_clear_9 0 rfl rfl ?_
      refine x_getsj X (i := 52) 16 fl_X12_90_13 (sdM_52 hω) (ks_52 _) rfl (j := 68) rfl dX12_clear_10 ?_
      refine x_iload_n X dX12_clear_13 2 rfl rfl ?_
      refine x_iconst X (v := 0) dX12_clear_14 (by decide) ?_
      obtain ⟨z4, hf⟩ := chk_some hf
      refine x_zast X (i := 68) (n := 1024) (sdM_68 hω) (ks_68 _) z4 dX12_clear_15 ?_
      obtain ⟨h5, eh5, hf⟩ := nm_some hf
      refine x_nmh eh5 ?_
      obtain ⟨v6, ev6, hf⟩ := nm_some hf
      refine x_iincN X (v := 1) ev6 [(2, .int v6), (0, .ref (q 52)), (1, .int a1)] dX12_clear_16 2 rfl (by decide) (Nat.le_of_ble_eq_true rfl) rfl ?_
      refine x_goto X 2 dX12_clear_19 (by decide) ?_
      refine x_lv [1, 2, 0] rfl ?_
      exact ih h5 _ _ hf
    · replace hf := (if_neg c3).symm.trans hf
      refine x_iconst X (v := 0) dX12_clear_22 (by decide) ?_
      refine x_istore_n X [(2, .int (0 : Int32)), (0, .ref (q 52)), (1, .int a1)] dX12_clear_23 rfl (Nat.le_of_ble_eq_true rfl) rfl ?_
      refine x_lv [1, 2, 0] rfl ?_
      exact k_X12_clear_24 hω X R _ h _ _ hf
set_option maxRecDepth 100000 in
set_option maxHeartbeats 4000000 in
theorem k_X12_clear {ω : XO} (hω : ω.2.2.2.1 = 0) {L : List Nat} {q : Nat → Nat} {h h' : hp} {p0 : Int32} {r : Int32} (hf : f_X12_clear h p0 = some (h', r)) : XM ω yX12_clear cX12_clear 4 (some .int) rm_X12_clear L q h [.ref (q 52), .int p0] (some (.int r)) h' := by
  refine XM_intro [(0, .ref (q 52)), (1, .int p0)] "SignalBlindModel" (by decide) rfl rfl (Nat.le_of_ble_eq_true rfl) (fun κ X R => ?_)
  unfold f_X12_clear at hf
  refine x_iconst X (v := 0) dX12_clear_0 (by decide) ?_
  refine x_istore_n X [(2, .int (0 : Int32)), (0, .ref (q 52)), (1, .int p0)] dX12_clear_1 rfl (Nat.le_of_ble_eq_true rfl) rfl ?_
  refine x_lv [1, 2, 0] rfl ?_
  exact k_X12_clear_2 hω X R _ h _ _ hf
theorem mt_X12_clear : MT yX12_clear cX12_clear 4 (some .int) "SignalBlindModel" 1 := ⟨(mT_6 142 rfl rfl), (mTp (q := (yX12_clear, 61)) (by decide +kernel) rfl), (mT_1 10 rfl rfl), (mT_6 143 rfl rfl), by decide⟩
theorem c_X12_302 {ω : XO} {rm : Room} {nL : Nat} {κ : XK} {cc : ByteArray} (X : XC ω rm nL κ cc "SignalBlindModel") (hω : ω.2.2.2.1 = 0) {L : List Nat} {q : Nat → Nat} {h h' : hp} {cells slots pc : Nat} {lv : List (Nat × Value)} {rest : List Value} {p0 : Int32} {r : Int32} (hf : f_X12_clear h p0 = some (h', r)) (hR : rm_X12_clear.frames + 1 ≤ rm.frames ∧ 8 + (4 + 11) + rm_X12_clear.locals ≤ rm.locals) (hcs : cells ≤ rm.cells ∧ slots ≤ rm.slots) (hroom : (rest.map fun v => v.category).sum ≤ 8) (hd : decode cc pc = .ok (.invokevirtual 302, 3)) (kk : XG ω rm nL κ L q h' cells slots (pc + 3) lv (.int r :: rest)) : XG ω rm nL κ L q h cells slots pc lv (.int p0 :: .ref (q 52) :: rest) := x_callV X [.int p0] rest (k_X12_clear hω hf) mt_X12_clear (mT_6 140 rfl rfl) hR ⟨rfl, rfl⟩ hcs (sdM_52 hω) (ks_52 _) (by decide) rfl rfl hroom hd kk

abbrev rm_X12_of : Room := { frames := 8, cells := 0, slots := 0, locals := 189 }
def f_X12_of (h : hp) (p0 : Int32) (p1 : Int32) : Option (hp × Int32) := (bnr (f_X12_isSender h p0) fun r1 =>
 (if r1 = 0 then
 (some (h, (-1 : Int32)))
 else
 (if p1 = (0 : Int32) then
 (chk p0 5
 (some (h, (aI h 54 (p0).toNatClampNeg))))
 else
 (if p1 = (1 : Int32) then
 (chk p0 5
 (some (h, (aI h 55 (p0).toNatClampNeg))))
 else
 (if p1 = (2 : Int32) then
 (chk p0 5
 (some (h, (aI h 56 (p0).toNatClampNeg))))
 else
 (if p1 = (3 : Int32) then
 (bnd (f_X12_through h p0) fun h11 r12 =>
 (some (h11, r12)))
 else
 (if p1 = (4 : Int32) then
 (bnd (f_X12_clear h p0) fun h15 r16 =>
 (some (h15, r16)))
 else
 (some (h, (-1 : Int32))))))))))
set_option maxRecDepth 100000 in
set_option maxHeartbeats 4000000 in
theorem k_X12_of {ω : XO} (hω : ω.2.2.2.1 = 0) {L : List Nat} {q : Nat → Nat} {h h' : hp} {p0 : Int32} {p1 : Int32} {r : Int32} (hf : f_X12_of h p0 p1 = some (h', r)) : XM ω yX12_of cX12_of 3 (some .int) rm_X12_of L q h [.ref (q 52), .int p0, .int p1] (some (.int r)) h' := by
  refine XM_intro [(0, .ref (q 52)), (1, .int p0), (2, .int p1)] "SignalBlindModel" (by decide) rfl rfl (Nat.le_of_ble_eq_true rfl) (fun κ X R => ?_)
  unfold f_X12_of at hf
  refine x_aload_n X dX12_of_0 0 rfl rfl ?_
  refine x_iload_n X dX12_of_1 1 rfl rfl ?_
  obtain ⟨r1, g2, hf⟩ := bnr_some hf
  refine c_X12_212 X hω g2 (hR := ⟨Nat.le_of_ble_eq_true rfl, Nat.le_of_ble_eq_true rfl⟩) ⟨Nat.zero_le _, Nat.zero_le _⟩ (Nat.le_of_ble_eq_true rfl) dX12_of_2 ?_
  refine x_if_ne X 10 dX12_of_5 (by decide) (fun c3 => ?_) (fun c3 => ?_)
  · replace hf := (if_pos c3).symm.trans hf
    refine x_iconst X (v := -1) dX12_of_8 (by decide) ?_
    exact x_retSI X R hf dX12_of_9
  · replace hf := (if_neg c3).symm.trans hf
    refine x_iload_n X dX12_of_10 2 rfl rfl ?_
    by_cases s4 : p1 = (0 : Int32)
    · replace hf := (if_pos s4).symm.trans hf
      refine x_tswI X (off := 33) 44 dX12_of_11 s4 (by decide) (by decide) (by decide) (by decide) ?_
      refine x_aload_n X dX12_of_44 0 rfl rfl ?_
      refine x_getsj X (i := 52) 2 fl_X12_23_13 (sdM_52 hω) (ks_52 _) rfl (j := 54) rfl dX12_of_45 ?_
      refine x_iload_n X dX12_of_48 1 rfl rfl ?_
      obtain ⟨z5, hf⟩ := chk_some hf
      refine x_iald X (i := 54) (n := 5) (sdM_54 hω) (ks_54 _) z5 dX12_of_49 ?_
      exact x_retSI X R hf dX12_of_50
    · replace hf := (if_neg s4).symm.trans hf
      by_cases s6 : p1 = (1 : Int32)
      · replace hf := (if_pos s6).symm.trans hf
        refine x_tswI X (off := 40) 51 dX12_of_11 s6 (by decide) (by decide) (by decide) (by decide) ?_
        refine x_aload_n X dX12_of_51 0 rfl rfl ?_
        refine x_getsj X (i := 52) 3 fl_X12_26_13 (sdM_52 hω) (ks_52 _) rfl (j := 55) rfl dX12_of_52 ?_
        refine x_iload_n X dX12_of_55 1 rfl rfl ?_
        obtain ⟨z7, hf⟩ := chk_some hf
        refine x_iald X (i := 55) (n := 5) (sdM_55 hω) (ks_55 _) z7 dX12_of_56 ?_
        exact x_retSI X R hf dX12_of_57
      · replace hf := (if_neg s6).symm.trans hf
        by_cases s8 : p1 = (2 : Int32)
        · replace hf := (if_pos s8).symm.trans hf
          refine x_tswI X (off := 47) 58 dX12_of_11 s8 (by decide) (by decide) (by decide) (by decide) ?_
          refine x_aload_n X dX12_of_58 0 rfl rfl ?_
          refine x_getsj X (i := 52) 4 fl_X12_29_13 (sdM_52 hω) (ks_52 _) rfl (j := 56) rfl dX12_of_59 ?_
          refine x_iload_n X dX12_of_62 1 rfl rfl ?_
          obtain ⟨z9, hf⟩ := chk_some hf
          refine x_iald X (i := 56) (n := 5) (sdM_56 hω) (ks_56 _) z9 dX12_of_63 ?_
          exact x_retSI X R hf dX12_of_64
        · replace hf := (if_neg s8).symm.trans hf
          by_cases s10 : p1 = (3 : Int32)
          · replace hf := (if_pos s10).symm.trans hf
            refine x_tswI X (off := 54) 65 dX12_of_11 s10 (by decide) (by decide) (by decide) (by decide) ?_
            refine x_aload_n X dX12_of_65 0 rfl rfl ?_
            refine x_iload_n X dX12_of_66 1 rfl rfl ?_
            obtain ⟨h11, r12, g13, hf⟩ := bnd_some hf
            refine c_X12_299 X hω g13 (hR := ⟨Nat.le_of_ble_eq_true rfl, Nat.le_of_ble_eq_true rfl⟩) ⟨Nat.zero_le _, Nat.zero_le _⟩ (Nat.le_of_ble_eq_true rfl) dX12_of_67 ?_
            exact x_retSI X R hf dX12_of_70
          · replace hf := (if_neg s10).symm.trans hf
            by_cases s14 : p1 = (4 : Int32)
            · replace hf := (if_pos s14).symm.trans hf
              refine x_tswI X (off := 60) 71 dX12_of_11 s14 (by decide) (by decide) (by decide) (by decide) ?_
              refine x_aload_n X dX12_of_71 0 rfl rfl ?_
              refine x_iload_n X dX12_of_72 1 rfl rfl ?_
              obtain ⟨h15, r16, g17, hf⟩ := bnd_some hf
              refine c_X12_302 X hω g17 (hR := ⟨Nat.le_of_ble_eq_true rfl, Nat.le_of_ble_eq_true rfl⟩) ⟨Nat.zero_le _, Nat.zero_le _⟩ (Nat.le_of_ble_eq_true rfl) dX12_of_73 ?_
              exact x_retSI X R hf dX12_of_76
            · replace hf := (if_neg s14).symm.trans hf
              refine x_tswO X 77 dX12_of_11 (by have := lv_neT s4 (a := 0) (by decide); have := lv_neT s6 (a := 1) (by decide); have := lv_neT s8 (a := 2) (by decide); have := lv_neT s10 (a := 3) (by decide); have := lv_neT s14 (a := 4) (by decide); omega) (by decide) ?_
              refine x_iconst X (v := -1) dX12_of_77 (by decide) ?_
              exact x_retSI X R hf dX12_of_78
theorem mt_X12_of : MT yX12_of cX12_of 3 (some .int) "SignalBlindModel" 2 := ⟨(mT_6 81 rfl rfl), (mT_6 82 rfl rfl), (mT_1 10 rfl rfl), (mT_6 83 rfl rfl), by decide⟩

abbrev rm_X12_shows : Room := { frames := 6, cells := 0, slots := 0, locals := 144 }
def f_X12_shows_29 (h : hp) (a7 : Int32) : Option (hp × Int32) := (some (h, a7))
def f_X12_shows (h : hp) (p0 : Int32) (p1 : Int32) : Option (hp × Int32) := (bnr (f_X12_isSender h p0) fun r1 =>
 (if r1 = 0 then
 (some (h, (-1 : Int32)))
 else
 (bnr (f_X12_isSign h p1) fun r4 =>
 (if r4 = 0 then
 (f_X12_shows_29 h (-2 : Int32))
 else
 (bnd (f_X12_showsOf h p0 p1) fun h8 r9 =>
 (f_X12_shows_29 h8 r9))))))
set_option maxRecDepth 100000 in
set_option maxHeartbeats 4000000 in
theorem k_X12_shows_29 {ω : XO} (hω : ω.2.2.2.1 = 0) {κ : XK} (X : XC ω rm_X12_shows 3 κ cX12_shows "SignalBlindModel") {L : List Nat} {q : Nat → Nat} {h' : hp} {r : Int32} (R : XRet ω rm_X12_shows κ (some .int) L q h' (some (.int r))) : ∀ (h : hp) (a7 : Int32), f_X12_shows_29 h a7 = some (h', r) → XG ω rm_X12_shows 3 κ L q h 0 0 29 [] [.int a7] := by
  intro h a7 hf
  unfold f_X12_shows_29 at hf
  exact x_retSI X R hf dX12_shows_29
set_option maxRecDepth 100000 in
set_option maxHeartbeats 4000000 in
theorem k_X12_shows {ω : XO} (hω : ω.2.2.2.1 = 0) {L : List Nat} {q : Nat → Nat} {h h' : hp} {p0 : Int32} {p1 : Int32} {r : Int32} (hf : f_X12_shows h p0 p1 = some (h', r)) : XM ω yX12_shows cX12_shows 3 (some .int) rm_X12_shows L q h [.ref (q 52), .int p0, .int p1] (some (.int r)) h' := by
  refine XM_intro [(0, .ref (q 52)), (1, .int p0), (2, .int p1)] "SignalBlindModel" (by decide) rfl rfl (Nat.le_of_ble_eq_true rfl) (fun κ X R => ?_)
  unfold f_X12_shows at hf
  refine x_aload_n X dX12_shows_0 0 rfl rfl ?_
  refine x_iload_n X dX12_shows_1 1 rfl rfl ?_
  obtain ⟨r1, g2, hf⟩ := bnr_some hf
  refine c_X12_212 X hω g2 (hR := ⟨Nat.le_of_ble_eq_true rfl, Nat.le_of_ble_eq_true rfl⟩) ⟨Nat.zero_le _, Nat.zero_le _⟩ (Nat.le_of_ble_eq_true rfl) dX12_shows_2 ?_
  refine x_if_ne X 10 dX12_shows_5 (by decide) (fun c3 => ?_) (fun c3 => ?_)
  · replace hf := (if_pos c3).symm.trans hf
    refine x_iconst X (v := -1) dX12_shows_8 (by decide) ?_
    exact x_retSI X R hf dX12_shows_9
  · replace hf := (if_neg c3).symm.trans hf
    refine x_aload_n X dX12_shows_10 0 rfl rfl ?_
    refine x_iload_n X dX12_shows_11 2 rfl rfl ?_
    obtain ⟨r4, g5, hf⟩ := bnr_some hf
    refine c_X12_205 X hω g5 (hR := ⟨Nat.le_of_ble_eq_true rfl, Nat.le_of_ble_eq_true rfl⟩) ⟨Nat.zero_le _, Nat.zero_le _⟩ (Nat.le_of_ble_eq_true rfl) dX12_shows_12 ?_
    refine x_if_eq X 27 dX12_shows_15 (by decide) (fun c6 => ?_) (fun c6 => ?_)
    · replace hf := (if_pos c6).symm.trans hf
      refine x_bipush X (v := -2) dX12_shows_27 (by decide) ?_
      refine x_lv [] rfl ?_
      exact k_X12_shows_29 hω X R h _ hf
    · replace hf := (if_neg c6).symm.trans hf
      refine x_aload_n X dX12_shows_18 0 rfl rfl ?_
      refine x_iload_n X dX12_shows_19 1 rfl rfl ?_
      refine x_iload_n X dX12_shows_20 2 rfl rfl ?_
      obtain ⟨h8, r9, g10, hf⟩ := bnd_some hf
      refine c_X12_290 X hω g10 (hR := ⟨Nat.le_of_ble_eq_true rfl, Nat.le_of_ble_eq_true rfl⟩) ⟨Nat.zero_le _, Nat.zero_le _⟩ (Nat.le_of_ble_eq_true rfl) dX12_shows_21 ?_
      refine x_goto X 29 dX12_shows_24 (by decide) ?_
      refine x_lv [] rfl ?_
      exact k_X12_shows_29 hω X R h8 _ hf
theorem mt_X12_shows : MT yX12_shows cX12_shows 3 (some .int) "SignalBlindModel" 2 := ⟨(mT_6 145 rfl rfl), (mT_6 146 rfl rfl), (mT_1 10 rfl rfl), (mT_6 147 rfl rfl), by decide⟩

abbrev rm_X12_meaning : Room := { frames := 3, cells := 0, slots := 0, locals := 70 }
def f_X12_meaning_18 (h : hp) (a4 : Int32) : Option Int32 := (some a4)
def f_X12_meaning (h : hp) (p0 : Int32) : Option Int32 := (bnr (f_X12_isSign h p0) fun r1 =>
 (if r1 = 0 then
 (f_X12_meaning_18 h (-2 : Int32))
 else
 (bnr (f_X12_readOf h p0) fun r5 =>
 (f_X12_meaning_18 h r5))))
set_option maxRecDepth 100000 in
set_option maxHeartbeats 4000000 in
theorem k_X12_meaning_18 {ω : XO} (hω : ω.2.2.2.1 = 0) {κ : XK} (X : XC ω rm_X12_meaning 2 κ cX12_meaning "SignalBlindModel") {L : List Nat} {q : Nat → Nat} {h : hp} {r : Int32} (R : XRet ω rm_X12_meaning κ (some .int) L q h (some (.int r))) : ∀ (a4 : Int32), f_X12_meaning_18 h a4 = some r → XG ω rm_X12_meaning 2 κ L q h 0 0 18 [] [.int a4] := by
  intro a4 hf
  unfold f_X12_meaning_18 at hf
  exact x_retRI X R hf dX12_meaning_18
set_option maxRecDepth 100000 in
set_option maxHeartbeats 4000000 in
theorem k_X12_meaning {ω : XO} (hω : ω.2.2.2.1 = 0) {L : List Nat} {q : Nat → Nat} {h : hp} {p0 : Int32} {r : Int32} (hf : f_X12_meaning h p0 = some r) : XM ω yX12_meaning cX12_meaning 2 (some .int) rm_X12_meaning L q h [.ref (q 52), .int p0] (some (.int r)) h := by
  refine XM_intro [(0, .ref (q 52)), (1, .int p0)] "SignalBlindModel" (by decide) rfl rfl (Nat.le_of_ble_eq_true rfl) (fun κ X R => ?_)
  unfold f_X12_meaning at hf
  refine x_aload_n X dX12_meaning_0 0 rfl rfl ?_
  refine x_iload_n X dX12_meaning_1 1 rfl rfl ?_
  obtain ⟨r1, g2, hf⟩ := bnr_some hf
  refine c_X12_205 X hω g2 (hR := ⟨Nat.le_of_ble_eq_true rfl, Nat.le_of_ble_eq_true rfl⟩) ⟨Nat.zero_le _, Nat.zero_le _⟩ (Nat.le_of_ble_eq_true rfl) dX12_meaning_2 ?_
  refine x_if_eq X 16 dX12_meaning_5 (by decide) (fun c3 => ?_) (fun c3 => ?_)
  · replace hf := (if_pos c3).symm.trans hf
    refine x_bipush X (v := -2) dX12_meaning_16 (by decide) ?_
    refine x_lv [] rfl ?_
    exact k_X12_meaning_18 hω X R _ hf
  · replace hf := (if_neg c3).symm.trans hf
    refine x_aload_n X dX12_meaning_8 0 rfl rfl ?_
    refine x_iload_n X dX12_meaning_9 1 rfl rfl ?_
    obtain ⟨r5, g6, hf⟩ := bnr_some hf
    refine c_X12_293 X hω g6 (hR := ⟨Nat.le_of_ble_eq_true rfl, Nat.le_of_ble_eq_true rfl⟩) ⟨Nat.zero_le _, Nat.zero_le _⟩ (Nat.le_of_ble_eq_true rfl) dX12_meaning_10 ?_
    refine x_goto X 18 dX12_meaning_13 (by decide) ?_
    refine x_lv [] rfl ?_
    exact k_X12_meaning_18 hω X R _ hf
theorem mt_X12_meaning : MT yX12_meaning cX12_meaning 2 (some .int) "SignalBlindModel" 1 := ⟨(mT_6 149 rfl rfl), (mT_6 150 rfl rfl), (mT_1 10 rfl rfl), (mT_6 151 rfl rfl), by decide⟩

abbrev rm_X12_say : Room := { frames := 6, cells := 0, slots := 0, locals := 144 }
def f_X12_say_16 (h : hp) : Option (hp × Int32) := (some (h, (-1 : Int32)))
def f_X12_say (h : hp) (p0 : Int32) (p1 : Int32) : Option (hp × Int32) := (bnr (f_X12_isSender h p0) fun r1 =>
 (if r1 = 0 then
 (f_X12_say_16 h)
 else
 (bnr (f_X12_isWord h p1) fun r4 =>
 (if r4 = 0 then
 (f_X12_say_16 h)
 else
 (chk p0 5
 (if (aI h 56 (p0).toNatClampNeg) = (9999 : Int32) then
 (some (h, (-3 : Int32)))
 else
 (chk p1 8
 (bnd (f_X12_showsOf h p0 (aI h 53 (p1).toNatClampNeg)) fun h10 r11 =>
 (bnr (f_X12_readOf h10 r11) fun r13 =>
 (chk p0 5
 (chk p0 5
 (nm (tI h10 56 (p0).toNatClampNeg ((aI h10 56 (p0).toNatClampNeg) + (1 : Int32))) fun h17 =>
 (some (h17, r13))))))))))))))
set_option maxRecDepth 100000 in
set_option maxHeartbeats 4000000 in
theorem k_X12_say_16 {ω : XO} (hω : ω.2.2.2.1 = 0) {κ : XK} (X : XC ω rm_X12_say 4 κ cX12_say "SignalBlindModel") {L : List Nat} {q : Nat → Nat} {h' : hp} {r : Int32} (R : XRet ω rm_X12_say κ (some .int) L q h' (some (.int r))) : ∀ (h : hp), f_X12_say_16 h = some (h', r) → XG ω rm_X12_say 4 κ L q h 0 0 16 [] [] := by
  intro h hf
  unfold f_X12_say_16 at hf
  refine x_iconst X (v := -1) dX12_say_16 (by decide) ?_
  exact x_retSI X R hf dX12_say_17
set_option maxRecDepth 100000 in
set_option maxHeartbeats 4000000 in
theorem k_X12_say {ω : XO} (hω : ω.2.2.2.1 = 0) {L : List Nat} {q : Nat → Nat} {h h' : hp} {p0 : Int32} {p1 : Int32} {r : Int32} (hf : f_X12_say h p0 p1 = some (h', r)) : XM ω yX12_say cX12_say 4 (some .int) rm_X12_say L q h [.ref (q 52), .int p0, .int p1] (some (.int r)) h' := by
  refine XM_intro [(0, .ref (q 52)), (1, .int p0), (2, .int p1)] "SignalBlindModel" (by decide) rfl rfl (Nat.le_of_ble_eq_true rfl) (fun κ X R => ?_)
  unfold f_X12_say at hf
  refine x_aload_n X dX12_say_0 0 rfl rfl ?_
  refine x_iload_n X dX12_say_1 1 rfl rfl ?_
  obtain ⟨r1, g2, hf⟩ := bnr_some hf
  refine c_X12_212 X hω g2 (hR := ⟨Nat.le_of_ble_eq_true rfl, Nat.le_of_ble_eq_true rfl⟩) ⟨Nat.zero_le _, Nat.zero_le _⟩ (Nat.le_of_ble_eq_true rfl) dX12_say_2 ?_
  refine x_if_eq X 16 dX12_say_5 (by decide) (fun c3 => ?_) (fun c3 => ?_)
  · replace hf := (if_pos c3).symm.trans hf
    refine x_lv [] rfl ?_
    exact k_X12_say_16 hω X R h hf
  · replace hf := (if_neg c3).symm.trans hf
    refine x_aload_n X dX12_say_8 0 rfl rfl ?_
    refine x_iload_n X dX12_say_9 2 rfl rfl ?_
    obtain ⟨r4, g5, hf⟩ := bnr_some hf
    refine c_X12_209 X hω g5 (hR := ⟨Nat.le_of_ble_eq_true rfl, Nat.le_of_ble_eq_true rfl⟩) ⟨Nat.zero_le _, Nat.zero_le _⟩ (Nat.le_of_ble_eq_true rfl) dX12_say_10 ?_
    refine x_if_ne X 18 dX12_say_13 (by decide) (fun c6 => ?_) (fun c6 => ?_)
    · replace hf := (if_pos c6).symm.trans hf
      refine x_lv [] rfl ?_
      exact k_X12_say_16 hω X R h hf
    · replace hf := (if_neg c6).symm.trans hf
      refine x_aload_n X dX12_say_18 0 rfl rfl ?_
      refine x_getsj X (i := 52) 4 fl_X12_29_13 (sdM_52 hω) (ks_52 _) rfl (j := 56) rfl dX12_say_19 ?_
      refine x_iload_n X dX12_say_22 1 rfl rfl ?_
      obtain ⟨z7, hf⟩ := chk_some hf
      refine x_iald X (i := 56) (n := 5) (sdM_56 hω) (ks_56 _) z7 dX12_say_23 ?_
      refine x_sipush X (v := 9999) dX12_say_24 (by decide) ?_
      refine x_icmp_ne X 33 dX12_say_27 (by decide) (fun c8 => ?_) (fun c8 => ?_)
      · replace hf := (if_pos c8).symm.trans hf
        refine x_bipush X (v := -3) dX12_say_30 (by decide) ?_
        exact x_retSI X R hf dX12_say_32
      · replace hf := (if_neg c8).symm.trans hf
        refine x_aload_n X dX12_say_33 0 rfl rfl ?_
        refine x_aload_n X dX12_say_34 0 rfl rfl ?_
        refine x_iload_n X dX12_say_35 1 rfl rfl ?_
        refine x_aload_n X dX12_say_36 0 rfl rfl ?_
        refine x_getsj X (i := 52) 1 fl_X12_19_13 (sdM_52 hω) (ks_52 _) rfl (j := 53) rfl dX12_say_37 ?_
        refine x_iload_n X dX12_say_40 2 rfl rfl ?_
        obtain ⟨z9, hf⟩ := chk_some hf
        refine x_iald X (i := 53) (n := 8) (sdM_53 hω) (ks_53 _) z9 dX12_say_41 ?_
        obtain ⟨h10, r11, g12, hf⟩ := bnd_some hf
        refine c_X12_290 X hω g12 (hR := ⟨Nat.le_of_ble_eq_true rfl, Nat.le_of_ble_eq_true rfl⟩) ⟨Nat.zero_le _, Nat.zero_le _⟩ (Nat.le_of_ble_eq_true rfl) dX12_say_42 ?_
        obtain ⟨r13, g14, hf⟩ := bnr_some hf
        refine c_X12_293 X hω g14 (hR := ⟨Nat.le_of_ble_eq_true rfl, Nat.le_of_ble_eq_true rfl⟩) ⟨Nat.zero_le _, Nat.zero_le _⟩ (Nat.le_of_ble_eq_true rfl) dX12_say_45 ?_
        refine x_istore_n X [(3, .int r13), (0, .ref (q 52)), (1, .int p0), (2, .int p1)] dX12_say_48 rfl (Nat.le_of_ble_eq_true rfl) rfl ?_
        refine x_aload_n X dX12_say_49 1 rfl rfl ?_
        refine x_getsj X (i := 52) 4 fl_X12_29_13 (sdM_52 hω) (ks_52 _) rfl (j := 56) rfl dX12_say_50 ?_
        refine x_iload_n X dX12_say_53 2 rfl rfl ?_
        refine x_dup2 X dX12_say_54 rfl rfl ?_
        obtain ⟨z15, hf⟩ := chk_some hf
        refine x_iald X (i := 56) (n := 5) (sdM_56 hω) (ks_56 _) z15 dX12_say_55 ?_
        refine x_iconst X (v := 1) dX12_say_56 (by decide) ?_
        refine x_iadd X dX12_say_57 ?_
        obtain ⟨z16, hf⟩ := chk_some hf
        refine x_iast X (i := 56) (n := 5) (sdM_56 hω) (ks_56 _) z16 dX12_say_58 ?_
        obtain ⟨h17, eh17, hf⟩ := nm_some hf
        refine x_nmh eh17 ?_
        refine x_iload_n X dX12_say_59 0 rfl rfl ?_
        exact x_retSI X R hf dX12_say_60
theorem mt_X12_say : MT yX12_say cX12_say 4 (some .int) "SignalBlindModel" 2 := ⟨(mT_6 153 rfl rfl), (mT_6 154 rfl rfl), (mT_1 10 rfl rfl), (mT_6 155 rfl rfl), by decide⟩

abbrev rm_X12_wordsApart : Room := { frames := 2, cells := 0, slots := 0, locals := 45 }
def f_X12_wordsApart_79 (h : hp) (k9 : Int32 → Int32 → Int32 → Int32 → Option Int32) (k24 : Int32 → Int32 → Int32 → Int32 → Int32 → Option Int32) (a23 : Int32) (a24 : Int32) (a25 : Int32) (a26 : Int32) (a27 : Int32) : Option Int32 := (nm (a27 + (1 : Int32)) fun v28 =>
 (k24 a23 a24 a25 a26 v28))
def f_X12_wordsApart_67 (h : hp) (k9 : Int32 → Int32 → Int32 → Int32 → Option Int32) (k24 : Int32 → Int32 → Int32 → Int32 → Int32 → Option Int32) (a18 : Int32) (a19 : Int32) (a20 : Int32) (a21 : Int32) : Option Int32 := (nm (((10 : Int32) * a19) + a20) fun v22 =>
 (f_X12_wordsApart_79 h k9 k24 a18 v22 a21 a19 a20))
def f_X12_wordsApart_24 (h : hp) (k9 : Int32 → Int32 → Int32 → Int32 → Option Int32) : Nat → Int32 → Int32 → Int32 → Int32 → Int32 → Option Int32
  | 0, _, _, _, _, _ => none
  | n + 1, a7, a8, a9, a10, a11 => (if a11 < (hI h 52 0) then
 (chk a10 8
 (chk a11 8
 (bnr (f_X12_bits h ((aI h 53 (a10).toNatClampNeg) ^^^ (aI h 53 (a11).toNatClampNeg))) fun r15 =>
 (if a8 < 0 then
 (f_X12_wordsApart_67 h k9 (f_X12_wordsApart_24 h k9 n) a7 a10 a11 r15)
 else
 (if r15 < a9 then
 (f_X12_wordsApart_67 h k9 (f_X12_wordsApart_24 h k9 n) a7 a10 a11 r15)
 else
 (f_X12_wordsApart_79 h k9 (f_X12_wordsApart_24 h k9 n) a7 a8 a9 a10 a11))))))
 else
 (nm (a10 + (1 : Int32)) fun v30 =>
 (k9 a7 a8 a9 v30)))
def f_X12_wordsApart_100 (h : hp) (a32 : Int32) : Option Int32 := (some a32)
def f_X12_wordsApart_9 (h : hp) : Nat → Int32 → Int32 → Int32 → Int32 → Option Int32
  | 0, _, _, _, _ => none
  | n + 1, a1, a2, a3, a4 => (if a4 < (hI h 52 0) then
 (nm (a4 + (1 : Int32)) fun v6 =>
 (f_X12_wordsApart_24 h (f_X12_wordsApart_9 h n) 2000 a1 a2 a3 a4 v6))
 else
 (if a1 = 0 then
 (f_X12_wordsApart_100 h a2)
 else
 (f_X12_wordsApart_100 h a3)))
def f_X12_wordsApart (h : hp) (p0 : Int32) : Option Int32 := (f_X12_wordsApart_9 h 2000 p0 (-5 : Int32) (-5 : Int32) (0 : Int32))
set_option maxRecDepth 100000 in
set_option maxHeartbeats 4000000 in
theorem k_X12_wordsApart_79 {ω : XO} (hω : ω.2.2.2.1 = 0) {κ : XK} (X : XC ω rm_X12_wordsApart 7 κ cX12_wordsApart "SignalBlindModel") {L : List Nat} {q : Nat → Nat} {h : hp} {r : Int32} (R : XRet ω rm_X12_wordsApart κ (some .int) L q h (some (.int r))) (k9 : Int32 → Int32 → Int32 → Int32 → Option Int32) (hk9 : ∀ (a1 : Int32) (a2 : Int32) (a3 : Int32) (a4 : Int32), k9 a1 a2 a3 a4 = some r → XG ω rm_X12_wordsApart 7 κ L q h 0 0 9 [(0, .ref (q 52)), (1, .int a1), (2, .int a2), (3, .int a3), (4, .int a4)] []) (k24 : Int32 → Int32 → Int32 → Int32 → Int32 → Option Int32) (hk24 : ∀ (a7 : Int32) (a8 : Int32) (a9 : Int32) (a10 : Int32) (a11 : Int32), k24 a7 a8 a9 a10 a11 = some r → XG ω rm_X12_wordsApart 7 κ L q h 0 0 24 [(0, .ref (q 52)), (1, .int a7), (2, .int a8), (3, .int a9), (4, .int a10), (5, .int a11)] []) : ∀ (a23 : Int32) (a24 : Int32) (a25 : Int32) (a26 : Int32) (a27 : Int32), f_X12_wordsApart_79 h k9 k24 a23 a24 a25 a26 a27 = some r → XG ω rm_X12_wordsApart 7 κ L q h 0 0 79 [(0, .ref (q 52)), (1, .int a23), (2, .int a24), (3, .int a25), (4, .int a26), (5, .int a27)] [] := by
  intro a23 a24 a25 a26 a27 hf
  unfold f_X12_wordsApart_79 at hf
  obtain ⟨v28, ev28, hf⟩ := nm_some hf
  refine x_iincN X (v := 1) ev28 [(5, .int v28), (0, .ref (q 52)), (1, .int a23), (2, .int a24), (3, .int a25), (4, .int a26)] dX12_wordsApart_79 5 rfl (by decide) (Nat.le_of_ble_eq_true rfl) rfl ?_
  refine x_goto X 24 dX12_wordsApart_82 (by decide) ?_
  refine x_lv [1, 2, 3, 4, 5, 0] rfl ?_
  exact hk24 _ _ _ _ _ hf
set_option maxRecDepth 100000 in
set_option maxHeartbeats 4000000 in
theorem k_X12_wordsApart_67 {ω : XO} (hω : ω.2.2.2.1 = 0) {κ : XK} (X : XC ω rm_X12_wordsApart 7 κ cX12_wordsApart "SignalBlindModel") {L : List Nat} {q : Nat → Nat} {h : hp} {r : Int32} (R : XRet ω rm_X12_wordsApart κ (some .int) L q h (some (.int r))) (k9 : Int32 → Int32 → Int32 → Int32 → Option Int32) (hk9 : ∀ (a1 : Int32) (a2 : Int32) (a3 : Int32) (a4 : Int32), k9 a1 a2 a3 a4 = some r → XG ω rm_X12_wordsApart 7 κ L q h 0 0 9 [(0, .ref (q 52)), (1, .int a1), (2, .int a2), (3, .int a3), (4, .int a4)] []) (k24 : Int32 → Int32 → Int32 → Int32 → Int32 → Option Int32) (hk24 : ∀ (a7 : Int32) (a8 : Int32) (a9 : Int32) (a10 : Int32) (a11 : Int32), k24 a7 a8 a9 a10 a11 = some r → XG ω rm_X12_wordsApart 7 κ L q h 0 0 24 [(0, .ref (q 52)), (1, .int a7), (2, .int a8), (3, .int a9), (4, .int a10), (5, .int a11)] []) : ∀ (a18 : Int32) (a19 : Int32) (a20 : Int32) (a21 : Int32), f_X12_wordsApart_67 h k9 k24 a18 a19 a20 a21 = some r → XG ω rm_X12_wordsApart 7 κ L q h 0 0 67 [(0, .ref (q 52)), (1, .int a18), (4, .int a19), (5, .int a20), (6, .int a21)] [] := by
  intro a18 a19 a20 a21 hf
  unfold f_X12_wordsApart_67 at hf
  refine x_bipush X (v := 10) dX12_wordsApart_67 (by decide) ?_
  refine x_iload X dX12_wordsApart_69 2 rfl ?_
  refine x_imul X dX12_wordsApart_71 ?_
  refine x_iload X dX12_wordsApart_72 3 rfl ?_
  refine x_iadd X dX12_wordsApart_74 ?_
  obtain ⟨v22, ev22, hf⟩ := nm_some hf
  refine x_nmI ev22 ?_
  refine x_istore_n X [(2, .int v22), (0, .ref (q 52)), (1, .int a18), (4, .int a19), (5, .int a20), (6, .int a21)] dX12_wordsApart_75 rfl (Nat.le_of_ble_eq_true rfl) rfl ?_
  refine x_iload X dX12_wordsApart_76 5 rfl ?_
  refine x_istore_n X [(3, .int a21), (2, .int v22), (0, .ref (q 52)), (1, .int a18), (4, .int a19), (5, .int a20), (6, .int a21)] dX12_wordsApart_78 rfl (Nat.le_of_ble_eq_true rfl) rfl ?_
  refine x_lv [2, 3, 1, 0, 4, 5] rfl ?_
  exact k_X12_wordsApart_79 hω X R _ hk9 _ hk24 _ _ _ _ _ hf
set_option maxRecDepth 100000 in
set_option maxHeartbeats 4000000 in
theorem k_X12_wordsApart_24 {ω : XO} (hω : ω.2.2.2.1 = 0) {κ : XK} (X : XC ω rm_X12_wordsApart 7 κ cX12_wordsApart "SignalBlindModel") {L : List Nat} {q : Nat → Nat} {h : hp} {r : Int32} (R : XRet ω rm_X12_wordsApart κ (some .int) L q h (some (.int r))) (k9 : Int32 → Int32 → Int32 → Int32 → Option Int32) (hk9 : ∀ (a1 : Int32) (a2 : Int32) (a3 : Int32) (a4 : Int32), k9 a1 a2 a3 a4 = some r → XG ω rm_X12_wordsApart 7 κ L q h 0 0 9 [(0, .ref (q 52)), (1, .int a1), (2, .int a2), (3, .int a3), (4, .int a4)] []) : ∀ (n : Nat) (a7 : Int32) (a8 : Int32) (a9 : Int32) (a10 : Int32) (a11 : Int32), f_X12_wordsApart_24 h k9 n a7 a8 a9 a10 a11 = some r → XG ω rm_X12_wordsApart 7 κ L q h 0 0 24 [(0, .ref (q 52)), (1, .int a7), (2, .int a8), (3, .int a9), (4, .int a10), (5, .int a11)] [] := by
  intro n
  induction n with
  | zero =>
    intro a7 a8 a9 a10 a11 hf
    have hf : (none : Option Int32) = some r := hf
    cases hf
  | succ n ih =>
    intro a7 a8 a9 a10 a11 hf
    rw [f_X12_wordsApart_24] at hf
    refine x_iload X dX12_wordsApart_24 5 rfl ?_
    refine x_aload_n X dX12_wordsApart_26 0 rfl rfl ?_
    refine x_geti X (i := 52) fl_X12_7_13 (sdM_52 hω) (ks_52 _) rfl dX12_wordsApart_27 ?_
    refine x_icmp_ge X 85 dX12_wordsApart_30 (by decide) (fun c12 => ?_) (fun c12 => ?_)
    · replace hf := (if_pos c12).symm.trans hf
      refine x_aload_n X dX12_wordsApart_33 0 rfl rfl ?_
      refine x_aload_n X dX12_wordsApart_34 0 rfl rfl ?_
      refine x_getsj X (i := 52) 1 fl_X12_19_13 (sdM_52 hω) (ks_52 _) rfl (j := 53) rfl dX12_wordsApart_35 ?_
      refine x_iload X dX12_wordsApart_38 4 rfl ?_
      obtain ⟨z13, hf⟩ := chk_some hf
      refine x_iald X (i := 53) (n := 8) (sdM_53 hω) (ks_53 _) z13 dX12_wordsApart_40 ?_
      refine x_aload_n X dX12_wordsApart_41 0 rfl rfl ?_
      refine x_getsj X (i := 52) 1 fl_X12_19_13 (sdM_52 hω) (ks_52 _) rfl (j := 53) rfl dX12_wordsApart_42 ?_
      refine x_iload X dX12_wordsApart_45 5 rfl ?_
      obtain ⟨z14, hf⟩ := chk_some hf
      refine x_iald X (i := 53) (n := 8) (sdM_53 hω) (ks_53 _) z14 dX12_wordsApart_47 ?_
      refine x_ixor X dX12_wordsApart_48 ?_
      obtain ⟨r15, g16, hf⟩ := bnr_some hf
      refine c_X12_267 X hω g16 (hR := ⟨Nat.le_of_ble_eq_true rfl, Nat.le_of_ble_eq_true rfl⟩) ⟨Nat.zero_le _, Nat.zero_le _⟩ (Nat.le_of_ble_eq_true rfl) dX12_wordsApart_49 ?_
      refine x_istore X [(6, .int r15), (0, .ref (q 52)), (1, .int a7), (2, .int a8), (3, .int a9), (4, .int a10), (5, .int a11)] dX12_wordsApart_52 (Nat.le_of_ble_eq_true rfl) rfl ?_
      refine x_iload_n X dX12_wordsApart_54 3 rfl rfl ?_
      refine x_if_lt X 67 dX12_wordsApart_55 (by decide) (fun c17 => ?_) (fun c17 => ?_)
      · replace hf := (if_pos c17).symm.trans hf
        refine x_lv [1, 2, 5, 6, 0] rfl ?_
        exact k_X12_wordsApart_67 hω X R _ hk9 _ ih _ _ _ _ hf
      · replace hf := (if_neg c17).symm.trans hf
        refine x_iload X dX12_wordsApart_58 0 rfl ?_
        refine x_iload_n X dX12_wordsApart_60 4 rfl rfl ?_
        refine x_icmp_lt X 67 dX12_wordsApart_61 (by decide) (fun c29 => ?_) (fun c29 => ?_)
        · replace hf := (if_pos c29).symm.trans hf
          refine x_lv [1, 2, 5, 6, 0] rfl ?_
          exact k_X12_wordsApart_67 hω X R _ hk9 _ ih _ _ _ _ hf
        · replace hf := (if_neg c29).symm.trans hf
          refine x_goto X 79 dX12_wordsApart_64 (by decide) ?_
          refine x_lv [1, 2, 3, 4, 5, 6] rfl ?_
          exact k_X12_wordsApart_79 hω X R _ hk9 _ ih _ _ _ _ _ hf
    · replace hf := (if_neg c12).symm.trans hf
      obtain ⟨v30, ev30, hf⟩ := nm_some hf
      refine x_iincN X (v := 1) ev30 [(4, .int v30), (0, .ref (q 52)), (1, .int a7), (2, .int a8), (3, .int a9), (5, .int a11)] dX12_wordsApart_85 4 rfl (by decide) (Nat.le_of_ble_eq_true rfl) rfl ?_
      refine x_goto X 9 dX12_wordsApart_88 (by decide) ?_
      refine x_lv [1, 2, 3, 4, 0] rfl ?_
      exact hk9 _ _ _ _ hf
set_option maxRecDepth 100000 in
set_option maxHeartbeats 4000000 in
theorem k_X12_wordsApart_100 {ω : XO} (hω : ω.2.2.2.1 = 0) {κ : XK} (X : XC ω rm_X12_wordsApart 7 κ cX12_wordsApart "SignalBlindModel") {L : List Nat} {q : Nat → Nat} {h : hp} {r : Int32} (R : XRet ω rm_X12_wordsApart κ (some .int) L q h (some (.int r))) : ∀ (a32 : Int32), f_X12_wordsApart_100 h a32 = some r → XG ω rm_X12_wordsApart 7 κ L q h 0 0 100 [] [.int a32] := by
  intro a32 hf
  unfold f_X12_wordsApart_100 at hf
  exact x_retRI X R hf dX12_wordsApart_100
set_option maxRecDepth 100000 in
set_option maxHeartbeats 4000000 in
theorem k_X12_wordsApart_9 {ω : XO} (hω : ω.2.2.2.1 = 0) {κ : XK} (X : XC ω rm_X12_wordsApart 7 κ cX12_wordsApart "SignalBlindModel") {L : List Nat} {q : Nat → Nat} {h : hp} {r : Int32} (R : XRet ω rm_X12_wordsApart κ (some .int) L q h (some (.int r))) : ∀ (n : Nat) (a1 : Int32) (a2 : Int32) (a3 : Int32) (a4 : Int32), f_X12_wordsApart_9 h n a1 a2 a3 a4 = some r → XG ω rm_X12_wordsApart 7 κ L q h 0 0 9 [(0, .ref (q 52)), (1, .int a1), (2, .int a2), (3, .int a3), (4, .int a4)] [] := by
  intro n
  induction n with
  | zero =>
    intro a1 a2 a3 a4 hf
    have hf : (none : Option Int32) = some r := hf
    cases hf
  | succ n ih =>
    intro a1 a2 a3 a4 hf
    rw [f_X12_wordsApart_9] at hf
    refine x_iload X dX12_wordsApart_9 4 rfl ?_
    refine x_aload_n X dX12_wordsApart_11 0 rfl rfl ?_
    refine x_geti X (i := 52) fl_X12_7_13 (sdM_52 hω) (ks_52 _) rfl dX12_wordsApart_12 ?_
    refine x_icmp_ge X 91 dX12_wordsApart_15 (by decide) (fun c5 => ?_) (fun c5 => ?_)
    · replace hf := (if_pos c5).symm.trans hf
      refine x_iload X dX12_wordsApart_18 4 rfl ?_
      refine x_iconst X (v := 1) dX12_wordsApart_20 (by decide) ?_
      refine x_iadd X dX12_wordsApart_21 ?_
      obtain ⟨v6, ev6, hf⟩ := nm_some hf
      refine x_nmI ev6 ?_
      refine x_istore X [(5, .int v6), (0, .ref (q 52)), (1, .int a1), (2, .int a2), (3, .int a3), (4, .int a4)] dX12_wordsApart_22 (Nat.le_of_ble_eq_true rfl) rfl ?_
      refine x_lv [1, 2, 3, 4, 5, 0] rfl ?_
      exact k_X12_wordsApart_24 hω X R _ ih _ _ _ _ _ _ hf
    · replace hf := (if_neg c5).symm.trans hf
      refine x_iload_n X dX12_wordsApart_91 1 rfl rfl ?_
      refine x_if_eq X 99 dX12_wordsApart_92 (by decide) (fun c31 => ?_) (fun c31 => ?_)
      · replace hf := (if_pos c31).symm.trans hf
        refine x_iload_n X dX12_wordsApart_99 2 rfl rfl ?_
        refine x_lv [] rfl ?_
        exact k_X12_wordsApart_100 hω X R _ hf
      · replace hf := (if_neg c31).symm.trans hf
        refine x_iload_n X dX12_wordsApart_95 3 rfl rfl ?_
        refine x_goto X 100 dX12_wordsApart_96 (by decide) ?_
        refine x_lv [] rfl ?_
        exact k_X12_wordsApart_100 hω X R _ hf
set_option maxRecDepth 100000 in
set_option maxHeartbeats 4000000 in
theorem k_X12_wordsApart {ω : XO} (hω : ω.2.2.2.1 = 0) {L : List Nat} {q : Nat → Nat} {h : hp} {p0 : Int32} {r : Int32} (hf : f_X12_wordsApart h p0 = some r) : XM ω yX12_wordsApart cX12_wordsApart 7 (some .int) rm_X12_wordsApart L q h [.ref (q 52), .int p0] (some (.int r)) h := by
  refine XM_intro [(0, .ref (q 52)), (1, .int p0)] "SignalBlindModel" (by decide) rfl rfl (Nat.le_of_ble_eq_true rfl) (fun κ X R => ?_)
  unfold f_X12_wordsApart at hf
  refine x_bipush X (v := -5) dX12_wordsApart_0 (by decide) ?_
  refine x_istore_n X [(2, .int (-5 : Int32)), (0, .ref (q 52)), (1, .int p0)] dX12_wordsApart_2 rfl (Nat.le_of_ble_eq_true rfl) rfl ?_
  refine x_bipush X (v := -5) dX12_wordsApart_3 (by decide) ?_
  refine x_istore_n X [(3, .int (-5 : Int32)), (2, .int (-5 : Int32)), (0, .ref (q 52)), (1, .int p0)] dX12_wordsApart_5 rfl (Nat.le_of_ble_eq_true rfl) rfl ?_
  refine x_iconst X (v := 0) dX12_wordsApart_6 (by decide) ?_
  refine x_istore X [(4, .int (0 : Int32)), (3, .int (-5 : Int32)), (2, .int (-5 : Int32)), (0, .ref (q 52)), (1, .int p0)] dX12_wordsApart_7 (Nat.le_of_ble_eq_true rfl) rfl ?_
  refine x_lv [3, 4, 2, 1, 0] rfl ?_
  exact k_X12_wordsApart_9 hω X R _ _ _ _ _ hf
theorem mt_X12_wordsApart : MT yX12_wordsApart cX12_wordsApart 7 (some .int) "SignalBlindModel" 1 := ⟨(mT_6 162 rfl rfl), (mTp (q := (yX12_wordsApart, 61)) (by decide +kernel) rfl), (mT_1 10 rfl rfl), (mT_6 163 rfl rfl), by decide⟩
theorem c_X12_308 {ω : XO} {rm : Room} {nL : Nat} {κ : XK} {cc : ByteArray} (X : XC ω rm nL κ cc "SignalBlindModel") (hω : ω.2.2.2.1 = 0) {L : List Nat} {q : Nat → Nat} {h : hp} {cells slots pc : Nat} {lv : List (Nat × Value)} {rest : List Value} {p0 : Int32} {r : Int32} (hf : f_X12_wordsApart h p0 = some r) (hR : rm_X12_wordsApart.frames + 1 ≤ rm.frames ∧ 8 + (7 + 11) + rm_X12_wordsApart.locals ≤ rm.locals) (hcs : cells ≤ rm.cells ∧ slots ≤ rm.slots) (hroom : (rest.map fun v => v.category).sum ≤ 8) (hd : decode cc pc = .ok (.invokevirtual 308, 3)) (kk : XG ω rm nL κ L q h cells slots (pc + 3) lv (.int r :: rest)) : XG ω rm nL κ L q h cells slots pc lv (.int p0 :: .ref (q 52) :: rest) := x_callV X [.int p0] rest (k_X12_wordsApart hω hf) mt_X12_wordsApart (mT_6 160 rfl rfl) hR ⟨rfl, rfl⟩ hcs (sdM_52 hω) (ks_52 _) (by decide) rfl rfl hroom hd kk
