abbrev rm_X12_leastApart : Room := { frames := 2, cells := 0, slots := 0, locals := 45 }
def f_X12_leastApart_39 (h : hp) (k5 : Int32 → Int32 → Int32 → Option Int32) (a9 : Int32) (a10 : Int32) (a11 : Int32) : Option Int32 := (nm (a10 + (1 : Int32)) fun v12 =>
 (k5 a9 a11 v12))
def f_X12_leastApart_5 (h : hp) : Nat → Int32 → Int32 → Int32 → Option Int32
  | 0, _, _, _ => none
  | n + 1, a1, a2, a3 => (if a3 < (hI h 52 0) then
 (chk a3 8
 (bnr (f_X12_bits h ((aI h 53 (a3).toNatClampNeg) ^^^ a1)) fun r6 =>
 (if r6 < a2 then
 (f_X12_leastApart_39 h (f_X12_leastApart_5 h n) a1 a3 r6)
 else
 (f_X12_leastApart_39 h (f_X12_leastApart_5 h n) a1 a3 a2))))
 else
 (some a2))
def f_X12_leastApart (h : hp) (p0 : Int32) : Option Int32 := (f_X12_leastApart_5 h 2000 p0 (99 : Int32) (0 : Int32))
set_option maxRecDepth 100000 in
set_option maxHeartbeats 4000000 in
theorem k_X12_leastApart_39 {ω : XO} (hω : ω.2.2.2.1 = 0) {κ : XK} (X : XC ω rm_X12_leastApart 5 κ cX12_leastApart "SignalBlindModel") {L : List Nat} {q : Nat → Nat} {h : hp} {r : Int32} (R : XRet ω rm_X12_leastApart κ (some .int) L q h (some (.int r))) (k5 : Int32 → Int32 → Int32 → Option Int32) (hk5 : ∀ (a1 : Int32) (a2 : Int32) (a3 : Int32), k5 a1 a2 a3 = some r → XG ω rm_X12_leastApart 5 κ L q h 0 0 5 [(0, .ref (q 52)), (1, .int a1), (2, .int a2), (3, .int a3)] []) : ∀ (a9 : Int32) (a10 : Int32) (a11 : Int32), f_X12_leastApart_39 h k5 a9 a10 a11 = some r → XG ω rm_X12_leastApart 5 κ L q h 0 0 39 [(0, .ref (q 52)), (1, .int a9), (3, .int a10)] [.int a11] := by
  intro a9 a10 a11 hf
  unfold f_X12_leastApart_39 at hf
  refine x_istore_n X [(2, .int a11), (0, .ref (q 52)), (1, .int a9), (3, .int a10)] dX12_leastApart_39 rfl (Nat.le_of_ble_eq_true rfl) rfl ?_
  obtain ⟨v12, ev12, hf⟩ := nm_some hf
  refine x_iincN X (v := 1) ev12 [(3, .int v12), (2, .int a11), (0, .ref (q 52)), (1, .int a9)] dX12_leastApart_40 3 rfl (by decide) (Nat.le_of_ble_eq_true rfl) rfl ?_
  refine x_goto X 5 dX12_leastApart_43 (by decide) ?_
  refine x_lv [2, 3, 1, 0] rfl ?_
  exact hk5 _ _ _ hf
set_option maxRecDepth 100000 in
set_option maxHeartbeats 4000000 in
theorem k_X12_leastApart_5 {ω : XO} (hω : ω.2.2.2.1 = 0) {κ : XK} (X : XC ω rm_X12_leastApart 5 κ cX12_leastApart "SignalBlindModel") {L : List Nat} {q : Nat → Nat} {h : hp} {r : Int32} (R : XRet ω rm_X12_leastApart κ (some .int) L q h (some (.int r))) : ∀ (n : Nat) (a1 : Int32) (a2 : Int32) (a3 : Int32), f_X12_leastApart_5 h n a1 a2 a3 = some r → XG ω rm_X12_leastApart 5 κ L q h 0 0 5 [(0, .ref (q 52)), (1, .int a1), (2, .int a2), (3, .int a3)] [] := by
  intro n
  induction n with
  | zero =>
    intro a1 a2 a3 hf
    have hf : (none : Option Int32) = some r := hf
    cases hf
  | succ n ih =>
    intro a1 a2 a3 hf
    rw [f_X12_leastApart_5] at hf
    refine x_iload_n X dX12_leastApart_5 3 rfl rfl ?_
    refine x_aload_n X dX12_leastApart_6 0 rfl rfl ?_
    refine x_geti X (i := 52) fl_X12_7_13 (sdM_52 hω) (ks_52 _) rfl dX12_leastApart_7 ?_
    refine x_icmp_ge X 46 dX12_leastApart_10 (by decide) (fun c4 => ?_) (fun c4 => ?_)
    · replace hf := (if_pos c4).symm.trans hf
      refine x_aload_n X dX12_leastApart_13 0 rfl rfl ?_
      refine x_aload_n X dX12_leastApart_14 0 rfl rfl ?_
      refine x_getsj X (i := 52) 1 fl_X12_19_13 (sdM_52 hω) (ks_52 _) rfl (j := 53) rfl dX12_leastApart_15 ?_
      refine x_iload_n X dX12_leastApart_18 3 rfl rfl ?_
      obtain ⟨z5, hf⟩ := chk_some hf
      refine x_iald X (i := 53) (n := 8) (sdM_53 hω) (ks_53 _) z5 dX12_leastApart_19 ?_
      refine x_iload_n X dX12_leastApart_20 1 rfl rfl ?_
      refine x_ixor X dX12_leastApart_21 ?_
      obtain ⟨r6, g7, hf⟩ := bnr_some hf
      refine c_X12_267 X hω g7 (hR := ⟨Nat.le_of_ble_eq_true rfl, Nat.le_of_ble_eq_true rfl⟩) ⟨Nat.zero_le _, Nat.zero_le _⟩ (Nat.le_of_ble_eq_true rfl) dX12_leastApart_22 ?_
      refine x_istore X [(4, .int r6), (0, .ref (q 52)), (1, .int a1), (2, .int a2), (3, .int a3)] dX12_leastApart_25 (Nat.le_of_ble_eq_true rfl) rfl ?_
      refine x_iload X dX12_leastApart_27 0 rfl ?_
      refine x_iload_n X dX12_leastApart_29 3 rfl rfl ?_
      refine x_icmp_ge X 38 dX12_leastApart_30 (by decide) (fun c8 => ?_) (fun c8 => ?_)
      · replace hf := (if_pos c8).symm.trans hf
        refine x_iload X dX12_leastApart_33 0 rfl ?_
        refine x_goto X 39 dX12_leastApart_35 (by decide) ?_
        refine x_lv [1, 2, 4] rfl ?_
        exact k_X12_leastApart_39 hω X R _ ih _ _ _ hf
      · replace hf := (if_neg c8).symm.trans hf
        refine x_iload_n X dX12_leastApart_38 3 rfl rfl ?_
        refine x_lv [1, 2, 4] rfl ?_
        exact k_X12_leastApart_39 hω X R _ ih _ _ _ hf
    · replace hf := (if_neg c4).symm.trans hf
      refine x_iload_n X dX12_leastApart_46 2 rfl rfl ?_
      exact x_retRI X R hf dX12_leastApart_47
set_option maxRecDepth 100000 in
set_option maxHeartbeats 4000000 in
theorem k_X12_leastApart {ω : XO} (hω : ω.2.2.2.1 = 0) {L : List Nat} {q : Nat → Nat} {h : hp} {p0 : Int32} {r : Int32} (hf : f_X12_leastApart h p0 = some r) : XM ω yX12_leastApart cX12_leastApart 5 (some .int) rm_X12_leastApart L q h [.ref (q 52), .int p0] (some (.int r)) h := by
  refine XM_intro [(0, .ref (q 52)), (1, .int p0)] "SignalBlindModel" (by decide) rfl rfl (Nat.le_of_ble_eq_true rfl) (fun κ X R => ?_)
  unfold f_X12_leastApart at hf
  refine x_bipush X (v := 99) dX12_leastApart_0 (by decide) ?_
  refine x_istore_n X [(2, .int (99 : Int32)), (0, .ref (q 52)), (1, .int p0)] dX12_leastApart_2 rfl (Nat.le_of_ble_eq_true rfl) rfl ?_
  refine x_iconst X (v := 0) dX12_leastApart_3 (by decide) ?_
  refine x_istore_n X [(3, .int (0 : Int32)), (2, .int (99 : Int32)), (0, .ref (q 52)), (1, .int p0)] dX12_leastApart_4 rfl (Nat.le_of_ble_eq_true rfl) rfl ?_
  refine x_lv [2, 3, 1, 0] rfl ?_
  exact k_X12_leastApart_5 hω X R _ _ _ _ hf
theorem mt_X12_leastApart : MT yX12_leastApart cX12_leastApart 5 (some .int) "SignalBlindModel" 1 := ⟨(mT_6 170 rfl rfl), (mTp (q := (yX12_leastApart, 61)) (by decide +kernel) rfl), (mT_1 10 rfl rfl), (mT_6 171 rfl rfl), by decide⟩
theorem c_X12_305 {ω : XO} {rm : Room} {nL : Nat} {κ : XK} {cc : ByteArray} (X : XC ω rm nL κ cc "SignalBlindModel") (hω : ω.2.2.2.1 = 0) {L : List Nat} {q : Nat → Nat} {h : hp} {cells slots pc : Nat} {lv : List (Nat × Value)} {rest : List Value} {p0 : Int32} {r : Int32} (hf : f_X12_leastApart h p0 = some r) (hR : rm_X12_leastApart.frames + 1 ≤ rm.frames ∧ 8 + (5 + 11) + rm_X12_leastApart.locals ≤ rm.locals) (hcs : cells ≤ rm.cells ∧ slots ≤ rm.slots) (hroom : (rest.map fun v => v.category).sum ≤ 8) (hd : decode cc pc = .ok (.invokevirtual 305, 3)) (kk : XG ω rm nL κ L q h cells slots (pc + 3) lv (.int r :: rest)) : XG ω rm nL κ L q h cells slots pc lv (.int p0 :: .ref (q 52) :: rest) := x_callV X [.int p0] rest (k_X12_leastApart hω hf) mt_X12_leastApart (mT_6 168 rfl rfl) hR ⟨rfl, rfl⟩ hcs (sdM_52 hω) (ks_52 _) (by decide) rfl rfl hroom hd kk

abbrev rm_X12_newSign : Room := { frames := 3, cells := 0, slots := 0, locals := 69 }
def f_X12_newSign_43 (h : hp) (k15 : Int32 → Int32 → Int32 → Option Int32) (a9 : Int32) (a10 : Int32) (a11 : Int32) : Option Int32 := (nm (a11 + (1 : Int32)) fun v12 =>
 (k15 a9 a10 v12))
def f_X12_newSign_15 (h : hp) : Nat → Int32 → Int32 → Int32 → Option Int32
  | 0, _, _, _ => none
  | n + 1, a2, a3, a4 => (if a4 < (1024 : Int32) then
 (bnr (f_X12_leastApart h a4) fun r6 =>
 (if a3 < r6 then
 (f_X12_newSign_43 h (f_X12_newSign_15 h n) a4 r6 a4)
 else
 (f_X12_newSign_43 h (f_X12_newSign_15 h n) a2 a3 a4)))
 else
 (some a2))
def f_X12_newSign (h : hp) : Option Int32 := (if (hI h 52 0) = 0 then
 (some (0 : Int32))
 else
 (f_X12_newSign_15 h 2000 (0 : Int32) (-1 : Int32) (0 : Int32)))
set_option maxRecDepth 100000 in
set_option maxHeartbeats 4000000 in
theorem k_X12_newSign_43 {ω : XO} (hω : ω.2.2.2.1 = 0) {κ : XK} (X : XC ω rm_X12_newSign 5 κ cX12_newSign "SignalBlindModel") {L : List Nat} {q : Nat → Nat} {h : hp} {r : Int32} (R : XRet ω rm_X12_newSign κ (some .int) L q h (some (.int r))) (k15 : Int32 → Int32 → Int32 → Option Int32) (hk15 : ∀ (a2 : Int32) (a3 : Int32) (a4 : Int32), k15 a2 a3 a4 = some r → XG ω rm_X12_newSign 5 κ L q h 0 0 15 [(0, .ref (q 52)), (1, .int a2), (2, .int a3), (3, .int a4)] []) : ∀ (a9 : Int32) (a10 : Int32) (a11 : Int32), f_X12_newSign_43 h k15 a9 a10 a11 = some r → XG ω rm_X12_newSign 5 κ L q h 0 0 43 [(0, .ref (q 52)), (1, .int a9), (2, .int a10), (3, .int a11)] [] := by
  intro a9 a10 a11 hf
  unfold f_X12_newSign_43 at hf
  obtain ⟨v12, ev12, hf⟩ := nm_some hf
  refine x_iincN X (v := 1) ev12 [(3, .int v12), (0, .ref (q 52)), (1, .int a9), (2, .int a10)] dX12_newSign_43 3 rfl (by decide) (Nat.le_of_ble_eq_true rfl) rfl ?_
  refine x_goto X 15 dX12_newSign_46 (by decide) ?_
  refine x_lv [1, 2, 3, 0] rfl ?_
  exact hk15 _ _ _ hf
set_option maxRecDepth 100000 in
set_option maxHeartbeats 4000000 in
theorem k_X12_newSign_15 {ω : XO} (hω : ω.2.2.2.1 = 0) {κ : XK} (X : XC ω rm_X12_newSign 5 κ cX12_newSign "SignalBlindModel") {L : List Nat} {q : Nat → Nat} {h : hp} {r : Int32} (R : XRet ω rm_X12_newSign κ (some .int) L q h (some (.int r))) : ∀ (n : Nat) (a2 : Int32) (a3 : Int32) (a4 : Int32), f_X12_newSign_15 h n a2 a3 a4 = some r → XG ω rm_X12_newSign 5 κ L q h 0 0 15 [(0, .ref (q 52)), (1, .int a2), (2, .int a3), (3, .int a4)] [] := by
  intro n
  induction n with
  | zero =>
    intro a2 a3 a4 hf
    have hf : (none : Option Int32) = some r := hf
    cases hf
  | succ n ih =>
    intro a2 a3 a4 hf
    rw [f_X12_newSign_15] at hf
    refine x_iload_n X dX12_newSign_15 3 rfl rfl ?_
    refine x_sipush X (v := 1024) dX12_newSign_16 (by decide) ?_
    refine x_icmp_ge X 49 dX12_newSign_19 (by decide) (fun c5 => ?_) (fun c5 => ?_)
    · replace hf := (if_pos c5).symm.trans hf
      refine x_aload_n X dX12_newSign_22 0 rfl rfl ?_
      refine x_iload_n X dX12_newSign_23 3 rfl rfl ?_
      obtain ⟨r6, g7, hf⟩ := bnr_some hf
      refine c_X12_305 X hω g7 (hR := ⟨Nat.le_of_ble_eq_true rfl, Nat.le_of_ble_eq_true rfl⟩) ⟨Nat.zero_le _, Nat.zero_le _⟩ (Nat.le_of_ble_eq_true rfl) dX12_newSign_24 ?_
      refine x_istore X [(4, .int r6), (0, .ref (q 52)), (1, .int a2), (2, .int a3), (3, .int a4)] dX12_newSign_27 (Nat.le_of_ble_eq_true rfl) rfl ?_
      refine x_iload X dX12_newSign_29 0 rfl ?_
      refine x_iload_n X dX12_newSign_31 3 rfl rfl ?_
      refine x_icmp_gt X 38 dX12_newSign_32 (by decide) (fun c8 => ?_) (fun c8 => ?_)
      · replace hf := (if_pos c8).symm.trans hf
        refine x_iload_n X dX12_newSign_38 4 rfl rfl ?_
        refine x_istore_n X [(1, .int a4), (4, .int r6), (0, .ref (q 52)), (2, .int a3), (3, .int a4)] dX12_newSign_39 rfl (Nat.le_of_ble_eq_true rfl) rfl ?_
        refine x_iload X dX12_newSign_40 1 rfl ?_
        refine x_istore_n X [(2, .int r6), (1, .int a4), (4, .int r6), (0, .ref (q 52)), (3, .int a4)] dX12_newSign_42 rfl (Nat.le_of_ble_eq_true rfl) rfl ?_
        refine x_lv [3, 1, 0, 4] rfl ?_
        exact k_X12_newSign_43 hω X R _ ih _ _ _ hf
      · replace hf := (if_neg c8).symm.trans hf
        refine x_goto X 43 dX12_newSign_35 (by decide) ?_
        refine x_lv [1, 2, 3, 4] rfl ?_
        exact k_X12_newSign_43 hω X R _ ih _ _ _ hf
    · replace hf := (if_neg c5).symm.trans hf
      refine x_iload_n X dX12_newSign_49 1 rfl rfl ?_
      exact x_retRI X R hf dX12_newSign_50
set_option maxRecDepth 100000 in
set_option maxHeartbeats 4000000 in
theorem k_X12_newSign {ω : XO} (hω : ω.2.2.2.1 = 0) {L : List Nat} {q : Nat → Nat} {h : hp}  {r : Int32} (hf : f_X12_newSign h = some r) : XM ω yX12_newSign cX12_newSign 5 (some .int) rm_X12_newSign L q h [.ref (q 52)] (some (.int r)) h := by
  refine XM_intro [(0, .ref (q 52))] "SignalBlindModel" (by decide) rfl rfl (Nat.le_of_ble_eq_true rfl) (fun κ X R => ?_)
  unfold f_X12_newSign at hf
  refine x_aload_n X dX12_newSign_0 0 rfl rfl ?_
  refine x_geti X (i := 52) fl_X12_7_13 (sdM_52 hω) (ks_52 _) rfl dX12_newSign_1 ?_
  refine x_if_ne X 9 dX12_newSign_4 (by decide) (fun c1 => ?_) (fun c1 => ?_)
  · replace hf := (if_pos c1).symm.trans hf
    refine x_iconst X (v := 0) dX12_newSign_7 (by decide) ?_
    exact x_retRI X R hf dX12_newSign_8
  · replace hf := (if_neg c1).symm.trans hf
    refine x_iconst X (v := 0) dX12_newSign_9 (by decide) ?_
    refine x_istore_n X [(1, .int (0 : Int32)), (0, .ref (q 52))] dX12_newSign_10 rfl (Nat.le_of_ble_eq_true rfl) rfl ?_
    refine x_iconst X (v := -1) dX12_newSign_11 (by decide) ?_
    refine x_istore_n X [(2, .int (-1 : Int32)), (1, .int (0 : Int32)), (0, .ref (q 52))] dX12_newSign_12 rfl (Nat.le_of_ble_eq_true rfl) rfl ?_
    refine x_iconst X (v := 0) dX12_newSign_13 (by decide) ?_
    refine x_istore_n X [(3, .int (0 : Int32)), (2, .int (-1 : Int32)), (1, .int (0 : Int32)), (0, .ref (q 52))] dX12_newSign_14 rfl (Nat.le_of_ble_eq_true rfl) rfl ?_
    refine x_lv [3, 2, 1, 0] rfl ?_
    exact k_X12_newSign_15 hω X R _ _ _ _ hf
theorem mt_X12_newSign : MT yX12_newSign cX12_newSign 5 (some .int) "SignalBlindModel" 0 := ⟨(mT_6 166 rfl rfl), (mTp (q := (yX12_newSign, 61)) (by decide +kernel) rfl), (mT_1 10 rfl rfl), (mT_6 167 rfl rfl), by decide⟩
theorem c_X12_312 {ω : XO} {rm : Room} {nL : Nat} {κ : XK} {cc : ByteArray} (X : XC ω rm nL κ cc "SignalBlindModel") (hω : ω.2.2.2.1 = 0) {L : List Nat} {q : Nat → Nat} {h : hp} {cells slots pc : Nat} {lv : List (Nat × Value)} {rest : List Value}  {r : Int32} (hf : f_X12_newSign h = some r) (hR : rm_X12_newSign.frames + 1 ≤ rm.frames ∧ 8 + (5 + 11) + rm_X12_newSign.locals ≤ rm.locals) (hcs : cells ≤ rm.cells ∧ slots ≤ rm.slots) (hroom : (rest.map fun v => v.category).sum ≤ 8) (hd : decode cc pc = .ok (.invokevirtual 312, 3)) (kk : XG ω rm nL κ L q h cells slots (pc + 3) lv (.int r :: rest)) : XG ω rm nL κ L q h cells slots pc lv (.ref (q 52) :: rest) := x_callV X [] rest (k_X12_newSign hω hf) mt_X12_newSign (mT_6 164 rfl rfl) hR ⟨rfl, rfl⟩ hcs (sdM_52 hω) (ks_52 _) (by decide) rfl rfl hroom hd kk

abbrev rm_X12_told : Room := { frames := 4, cells := 0, slots := 0, locals := 93 }
def f_X12_told_115 (h : hp) (a19 : Int32) : Option Int32 := (some a19)
def f_X12_told (h : hp) (p0 : Int32) : Option Int32 := (bnr (f_X12_in h p0 (10 : Int32) ((9 : Int32) + (hI h 52 0))) fun r1 =>
 (if r1 = 0 then
 (if p0 = (0 : Int32) then
 (some (hI h 52 2))
 else
 (if p0 = (1 : Int32) then
 (bnr (f_X12_near h) fun r6 =>
 (some r6))
 else
 (if p0 = (2 : Int32) then
 (bnr (f_X12_wordsApart h (1 : Int32)) fun r9 =>
 (some r9))
 else
 (if p0 = (3 : Int32) then
 (bnr (f_X12_wordsApart h (0 : Int32)) fun r12 =>
 (some r12))
 else
 (if p0 = (4 : Int32) then
 (bnr (f_X12_newSign h) fun r15 =>
 (some r15))
 else
 (if p0 = (5 : Int32) then
 (if (hI h 52 0) = 0 then
 (f_X12_told_115 h (-5 : Int32))
 else
 (bnr (f_X12_newSign h) fun r20 =>
 (bnr (f_X12_leastApart h r20) fun r22 =>
 (f_X12_told_115 h r22))))
 else
 (some (-1 : Int32))))))))
 else
 (chk (p0 - (10 : Int32)) 8
 (some (aI h 53 ((p0 - (10 : Int32))).toNatClampNeg)))))
set_option maxRecDepth 100000 in
set_option maxHeartbeats 4000000 in
theorem k_X12_told_115 {ω : XO} (hω : ω.2.2.2.1 = 0) {κ : XK} (X : XC ω rm_X12_told 2 κ cX12_told "SignalBlindModel") {L : List Nat} {q : Nat → Nat} {h : hp} {r : Int32} (R : XRet ω rm_X12_told κ (some .int) L q h (some (.int r))) : ∀ (a19 : Int32), f_X12_told_115 h a19 = some r → XG ω rm_X12_told 2 κ L q h 0 0 115 [] [.int a19] := by
  intro a19 hf
  unfold f_X12_told_115 at hf
  exact x_retRI X R hf dX12_told_115
set_option maxRecDepth 100000 in
set_option maxHeartbeats 4000000 in
theorem k_X12_told {ω : XO} (hω : ω.2.2.2.1 = 0) {L : List Nat} {q : Nat → Nat} {h : hp} {p0 : Int32} {r : Int32} (hf : f_X12_told h p0 = some r) : XM ω yX12_told cX12_told 2 (some .int) rm_X12_told L q h [.ref (q 52), .int p0] (some (.int r)) h := by
  refine XM_intro [(0, .ref (q 52)), (1, .int p0)] "SignalBlindModel" (by decide) rfl rfl (Nat.le_of_ble_eq_true rfl) (fun κ X R => ?_)
  unfold f_X12_told at hf
  refine x_aload_n X dX12_told_0 0 rfl rfl ?_
  refine x_iload_n X dX12_told_1 1 rfl rfl ?_
  refine x_bipush X (v := 10) dX12_told_2 (by decide) ?_
  refine x_bipush X (v := 9) dX12_told_4 (by decide) ?_
  refine x_aload_n X dX12_told_6 0 rfl rfl ?_
  refine x_geti X (i := 52) fl_X12_7_13 (sdM_52 hω) (ks_52 _) rfl dX12_told_7 ?_
  refine x_iadd X dX12_told_10 ?_
  obtain ⟨r1, g2, hf⟩ := bnr_some hf
  refine c_X12_201 X hω g2 (hR := ⟨Nat.le_of_ble_eq_true rfl, Nat.le_of_ble_eq_true rfl⟩) ⟨Nat.zero_le _, Nat.zero_le _⟩ (Nat.le_of_ble_eq_true rfl) dX12_told_11 ?_
  refine x_if_eq X 27 dX12_told_14 (by decide) (fun c3 => ?_) (fun c3 => ?_)
  · replace hf := (if_pos c3).symm.trans hf
    refine x_iload_n X dX12_told_27 1 rfl rfl ?_
    by_cases s4 : p0 = (0 : Int32)
    · replace hf := (if_pos s4).symm.trans hf
      refine x_tswI X (off := 40) 68 dX12_told_28 s4 (by decide) (by decide) (by decide) (by decide) ?_
      refine x_aload_n X dX12_told_68 0 rfl rfl ?_
      refine x_geti X (i := 52) fl_X12_16_13 (sdM_52 hω) (ks_52 _) rfl dX12_told_69 ?_
      exact x_retRI X R hf dX12_told_72
    · replace hf := (if_neg s4).symm.trans hf
      by_cases s5 : p0 = (1 : Int32)
      · replace hf := (if_pos s5).symm.trans hf
        refine x_tswI X (off := 45) 73 dX12_told_28 s5 (by decide) (by decide) (by decide) (by decide) ?_
        refine x_aload_n X dX12_told_73 0 rfl rfl ?_
        obtain ⟨r6, g7, hf⟩ := bnr_some hf
        refine c_X12_287 X hω g7 (hR := ⟨Nat.le_of_ble_eq_true rfl, Nat.le_of_ble_eq_true rfl⟩) ⟨Nat.zero_le _, Nat.zero_le _⟩ (Nat.le_of_ble_eq_true rfl) dX12_told_74 ?_
        exact x_retRI X R hf dX12_told_77
      · replace hf := (if_neg s5).symm.trans hf
        by_cases s8 : p0 = (2 : Int32)
        · replace hf := (if_pos s8).symm.trans hf
          refine x_tswI X (off := 50) 78 dX12_told_28 s8 (by decide) (by decide) (by decide) (by decide) ?_
          refine x_aload_n X dX12_told_78 0 rfl rfl ?_
          refine x_iconst X (v := 1) dX12_told_79 (by decide) ?_
          obtain ⟨r9, g10, hf⟩ := bnr_some hf
          refine c_X12_308 X hω g10 (hR := ⟨Nat.le_of_ble_eq_true rfl, Nat.le_of_ble_eq_true rfl⟩) ⟨Nat.zero_le _, Nat.zero_le _⟩ (Nat.le_of_ble_eq_true rfl) dX12_told_80 ?_
          exact x_retRI X R hf dX12_told_83
        · replace hf := (if_neg s8).symm.trans hf
          by_cases s11 : p0 = (3 : Int32)
          · replace hf := (if_pos s11).symm.trans hf
            refine x_tswI X (off := 56) 84 dX12_told_28 s11 (by decide) (by decide) (by decide) (by decide) ?_
            refine x_aload_n X dX12_told_84 0 rfl rfl ?_
            refine x_iconst X (v := 0) dX12_told_85 (by decide) ?_
            obtain ⟨r12, g13, hf⟩ := bnr_some hf
            refine c_X12_308 X hω g13 (hR := ⟨Nat.le_of_ble_eq_true rfl, Nat.le_of_ble_eq_true rfl⟩) ⟨Nat.zero_le _, Nat.zero_le _⟩ (Nat.le_of_ble_eq_true rfl) dX12_told_86 ?_
            exact x_retRI X R hf dX12_told_89
          · replace hf := (if_neg s11).symm.trans hf
            by_cases s14 : p0 = (4 : Int32)
            · replace hf := (if_pos s14).symm.trans hf
              refine x_tswI X (off := 62) 90 dX12_told_28 s14 (by decide) (by decide) (by decide) (by decide) ?_
              refine x_aload_n X dX12_told_90 0 rfl rfl ?_
              obtain ⟨r15, g16, hf⟩ := bnr_some hf
              refine c_X12_312 X hω g16 (hR := ⟨Nat.le_of_ble_eq_true rfl, Nat.le_of_ble_eq_true rfl⟩) ⟨Nat.zero_le _, Nat.zero_le _⟩ (Nat.le_of_ble_eq_true rfl) dX12_told_91 ?_
              exact x_retRI X R hf dX12_told_94
            · replace hf := (if_neg s14).symm.trans hf
              by_cases s17 : p0 = (5 : Int32)
              · replace hf := (if_pos s17).symm.trans hf
                refine x_tswI X (off := 67) 95 dX12_told_28 s17 (by decide) (by decide) (by decide) (by decide) ?_
                refine x_aload_n X dX12_told_95 0 rfl rfl ?_
                refine x_geti X (i := 52) fl_X12_7_13 (sdM_52 hω) (ks_52 _) rfl dX12_told_96 ?_
                refine x_if_ne X 107 dX12_told_99 (by decide) (fun c18 => ?_) (fun c18 => ?_)
                · replace hf := (if_pos c18).symm.trans hf
                  refine x_bipush X (v := -5) dX12_told_102 (by decide) ?_
                  refine x_goto X 115 dX12_told_104 (by decide) ?_
                  refine x_lv [] rfl ?_
                  exact k_X12_told_115 hω X R _ hf
                · replace hf := (if_neg c18).symm.trans hf
                  refine x_aload_n X dX12_told_107 0 rfl rfl ?_
                  refine x_aload_n X dX12_told_108 0 rfl rfl ?_
                  obtain ⟨r20, g21, hf⟩ := bnr_some hf
                  refine c_X12_312 X hω g21 (hR := ⟨Nat.le_of_ble_eq_true rfl, Nat.le_of_ble_eq_true rfl⟩) ⟨Nat.zero_le _, Nat.zero_le _⟩ (Nat.le_of_ble_eq_true rfl) dX12_told_109 ?_
                  obtain ⟨r22, g23, hf⟩ := bnr_some hf
                  refine c_X12_305 X hω g23 (hR := ⟨Nat.le_of_ble_eq_true rfl, Nat.le_of_ble_eq_true rfl⟩) ⟨Nat.zero_le _, Nat.zero_le _⟩ (Nat.le_of_ble_eq_true rfl) dX12_told_112 ?_
                  refine x_lv [] rfl ?_
                  exact k_X12_told_115 hω X R _ hf
              · replace hf := (if_neg s17).symm.trans hf
                refine x_tswO X 116 dX12_told_28 (by have := lv_neT s4 (a := 0) (by decide); have := lv_neT s5 (a := 1) (by decide); have := lv_neT s8 (a := 2) (by decide); have := lv_neT s11 (a := 3) (by decide); have := lv_neT s14 (a := 4) (by decide); have := lv_neT s17 (a := 5) (by decide); omega) (by decide) ?_
                refine x_iconst X (v := -1) dX12_told_116 (by decide) ?_
                exact x_retRI X R hf dX12_told_117
  · replace hf := (if_neg c3).symm.trans hf
    refine x_aload_n X dX12_told_17 0 rfl rfl ?_
    refine x_getsj X (i := 52) 1 fl_X12_19_13 (sdM_52 hω) (ks_52 _) rfl (j := 53) rfl dX12_told_18 ?_
    refine x_iload_n X dX12_told_21 1 rfl rfl ?_
    refine x_bipush X (v := 10) dX12_told_22 (by decide) ?_
    refine x_isub X dX12_told_24 ?_
    obtain ⟨z24, hf⟩ := chk_some hf
    refine x_iald X (i := 53) (n := 8) (sdM_53 hω) (ks_53 _) z24 dX12_told_25 ?_
    exact x_retRI X R hf dX12_told_26
theorem mt_X12_told : MT yX12_told cX12_told 2 (some .int) "SignalBlindModel" 1 := ⟨(mT_6 157 rfl rfl), (mT_6 158 rfl rfl), (mT_1 10 rfl rfl), (mT_6 159 rfl rfl), by decide⟩

abbrev rm_X12_pass : Room := { frames := 1, cells := 0, slots := 0, locals := 23 }
def f_X12_pass (h : hp) (p0 : Int32) : Option (hp × Int32) := (bnr (f_X12_in h p0 (0 : Int32) (60 : Int32)) fun r1 =>
 (if r1 = 0 then
 (some (h, (-2 : Int32)))
 else
 (if (9999 : Int32) < ((hI h 52 2) + p0) then
 (some (h, (-3 : Int32)))
 else
 (nm (sI h 52 2 ((hI h 52 2) + p0)) fun h5 =>
 (some (h5, (hI h5 52 2)))))))
set_option maxRecDepth 100000 in
set_option maxHeartbeats 4000000 in
theorem k_X12_pass {ω : XO} (hω : ω.2.2.2.1 = 0) {L : List Nat} {q : Nat → Nat} {h h' : hp} {p0 : Int32} {r : Int32} (hf : f_X12_pass h p0 = some (h', r)) : XM ω yX12_pass cX12_pass 2 (some .int) rm_X12_pass L q h [.ref (q 52), .int p0] (some (.int r)) h' := by
  refine XM_intro [(0, .ref (q 52)), (1, .int p0)] "SignalBlindModel" (by decide) rfl rfl (Nat.le_of_ble_eq_true rfl) (fun κ X R => ?_)
  unfold f_X12_pass at hf
  refine x_aload_n X dX12_pass_0 0 rfl rfl ?_
  refine x_iload_n X dX12_pass_1 1 rfl rfl ?_
  refine x_iconst X (v := 0) dX12_pass_2 (by decide) ?_
  refine x_bipush X (v := 60) dX12_pass_3 (by decide) ?_
  obtain ⟨r1, g2, hf⟩ := bnr_some hf
  refine c_X12_201 X hω g2 (hR := ⟨Nat.le_of_ble_eq_true rfl, Nat.le_of_ble_eq_true rfl⟩) ⟨Nat.zero_le _, Nat.zero_le _⟩ (Nat.le_of_ble_eq_true rfl) dX12_pass_5 ?_
  refine x_if_ne X 14 dX12_pass_8 (by decide) (fun c3 => ?_) (fun c3 => ?_)
  · replace hf := (if_pos c3).symm.trans hf
    refine x_bipush X (v := -2) dX12_pass_11 (by decide) ?_
    exact x_retSI X R hf dX12_pass_13
  · replace hf := (if_neg c3).symm.trans hf
    refine x_aload_n X dX12_pass_14 0 rfl rfl ?_
    refine x_geti X (i := 52) fl_X12_16_13 (sdM_52 hω) (ks_52 _) rfl dX12_pass_15 ?_
    refine x_iload_n X dX12_pass_18 1 rfl rfl ?_
    refine x_iadd X dX12_pass_19 ?_
    refine x_sipush X (v := 9999) dX12_pass_20 (by decide) ?_
    refine x_icmp_le X 29 dX12_pass_23 (by decide) (fun c4 => ?_) (fun c4 => ?_)
    · replace hf := (if_pos c4).symm.trans hf
      refine x_bipush X (v := -3) dX12_pass_26 (by decide) ?_
      exact x_retSI X R hf dX12_pass_28
    · replace hf := (if_neg c4).symm.trans hf
      refine x_aload_n X dX12_pass_29 0 rfl rfl ?_
      refine x_dup X dX12_pass_30 rfl ?_
      refine x_geti X (i := 52) fl_X12_16_13 (sdM_52 hω) (ks_52 _) rfl dX12_pass_31 ?_
      refine x_iload_n X dX12_pass_34 1 rfl rfl ?_
      refine x_iadd X dX12_pass_35 ?_
      refine x_puti X (i := 52) fl_X12_16_13 fw_13 (sdM_52 hω) (ks_52 _) rfl rfl rfl rfl dX12_pass_36 ?_
      obtain ⟨h5, eh5, hf⟩ := nm_some hf
      refine x_nmh eh5 ?_
      refine x_aload_n X dX12_pass_39 0 rfl rfl ?_
      refine x_geti X (i := 52) fl_X12_16_13 (sdM_52 hω) (ks_52 _) rfl dX12_pass_40 ?_
      exact x_retSI X R hf dX12_pass_43
theorem mt_X12_pass : MT yX12_pass cX12_pass 2 (some .int) "SignalBlindModel" 1 := ⟨(mT_6 173 rfl rfl), (mT_6 174 rfl rfl), (mT_1 10 rfl rfl), (mT_6 175 rfl rfl), by decide⟩

abbrev rm_X12_saying : Room := { frames := 6, cells := 0, slots := 0, locals := 144 }
def f_X12_saying_26 (h : hp) : Option (hp × Int32) := (some (h, (-1 : Int32)))
def f_X12_saying_88 (h : hp) (a18 : Int32) : Option (hp × Int32) := (some (h, a18))
def f_X12_saying_71 (k40 : hp → Int32 → Int32 → Int32 → Int32 → Int32 → Int32 → Option (hp × Int32)) (h : hp) (a25 : Int32) (a26 : Int32) (a27 : Int32) (a28 : Int32) (a29 : Int32) (a30 : Int32) : Option (hp × Int32) := (nm (a30 + (-1 : Int32)) fun v31 =>
 (k40 h a25 a26 a27 a28 a29 v31))
def f_X12_saying_40 : Nat → hp → Int32 → Int32 → Int32 → Int32 → Int32 → Int32 → Option (hp × Int32)
  | 0, _, _, _, _, _, _, _ => none
  | n + 1, h, a10, a11, a12, a13, a14, a15 => (if a15 < 0 then
 (if a12 = 0 then
 (f_X12_saying_88 h a14)
 else
 (f_X12_saying_88 h a13))
 else
 (bnd (f_X12_showsOf h a10 a15) fun h19 r20 =>
 (chk a11 8
 (if r20 = (aI h19 53 (a11).toNatClampNeg) then
 (nm (a13 + (1 : Int32)) fun v24 =>
 (f_X12_saying_71 (f_X12_saying_40 n) h19 a10 a11 a12 v24 a15 a15))
 else
 (f_X12_saying_71 (f_X12_saying_40 n) h19 a10 a11 a12 a13 a14 a15)))))
def f_X12_saying (h : hp) (p0 : Int32) (p1 : Int32) (p2 : Int32) : Option (hp × Int32) := (bnr (f_X12_isSender h p0) fun r1 =>
 (if r1 = 0 then
 (f_X12_saying_26 h)
 else
 (bnr (f_X12_isWord h p1) fun r4 =>
 (if r4 = 0 then
 (f_X12_saying_26 h)
 else
 (bnr (f_X12_in h p2 (0 : Int32) (1 : Int32)) fun r7 =>
 (if r7 = 0 then
 (f_X12_saying_26 h)
 else
 (f_X12_saying_40 2000 h p0 p1 p2 (0 : Int32) (-5 : Int32) (1023 : Int32))))))))
set_option maxRecDepth 100000 in
set_option maxHeartbeats 4000000 in
theorem k_X12_saying_26 {ω : XO} (hω : ω.2.2.2.1 = 0) {κ : XK} (X : XC ω rm_X12_saying 7 κ cX12_saying "SignalBlindModel") {L : List Nat} {q : Nat → Nat} {h' : hp} {r : Int32} (R : XRet ω rm_X12_saying κ (some .int) L q h' (some (.int r))) : ∀ (h : hp), f_X12_saying_26 h = some (h', r) → XG ω rm_X12_saying 7 κ L q h 0 0 26 [] [] := by
  intro h hf
  unfold f_X12_saying_26 at hf
  refine x_iconst X (v := -1) dX12_saying_26 (by decide) ?_
  exact x_retSI X R hf dX12_saying_27
set_option maxRecDepth 100000 in
set_option maxHeartbeats 4000000 in
theorem k_X12_saying_88 {ω : XO} (hω : ω.2.2.2.1 = 0) {κ : XK} (X : XC ω rm_X12_saying 7 κ cX12_saying "SignalBlindModel") {L : List Nat} {q : Nat → Nat} {h' : hp} {r : Int32} (R : XRet ω rm_X12_saying κ (some .int) L q h' (some (.int r))) : ∀ (h : hp) (a18 : Int32), f_X12_saying_88 h a18 = some (h', r) → XG ω rm_X12_saying 7 κ L q h 0 0 88 [] [.int a18] := by
  intro h a18 hf
  unfold f_X12_saying_88 at hf
  exact x_retSI X R hf dX12_saying_88
set_option maxRecDepth 100000 in
set_option maxHeartbeats 4000000 in
theorem k_X12_saying_71 {ω : XO} (hω : ω.2.2.2.1 = 0) {κ : XK} (X : XC ω rm_X12_saying 7 κ cX12_saying "SignalBlindModel") {L : List Nat} {q : Nat → Nat} {h' : hp} {r : Int32} (R : XRet ω rm_X12_saying κ (some .int) L q h' (some (.int r))) (k40 : hp → Int32 → Int32 → Int32 → Int32 → Int32 → Int32 → Option (hp × Int32)) (hk40 : ∀ (h : hp) (a10 : Int32) (a11 : Int32) (a12 : Int32) (a13 : Int32) (a14 : Int32) (a15 : Int32), k40 h a10 a11 a12 a13 a14 a15 = some (h', r) → XG ω rm_X12_saying 7 κ L q h 0 0 40 [(0, .ref (q 52)), (1, .int a10), (2, .int a11), (3, .int a12), (4, .int a13), (5, .int a14), (6, .int a15)] []) : ∀ (h : hp) (a25 : Int32) (a26 : Int32) (a27 : Int32) (a28 : Int32) (a29 : Int32) (a30 : Int32), f_X12_saying_71 k40 h a25 a26 a27 a28 a29 a30 = some (h', r) → XG ω rm_X12_saying 7 κ L q h 0 0 71 [(0, .ref (q 52)), (1, .int a25), (2, .int a26), (3, .int a27), (4, .int a28), (5, .int a29), (6, .int a30)] [] := by
  intro h a25 a26 a27 a28 a29 a30 hf
  unfold f_X12_saying_71 at hf
  obtain ⟨v31, ev31, hf⟩ := nm_some hf
  refine x_iincN X (v := -1) ev31 [(6, .int v31), (0, .ref (q 52)), (1, .int a25), (2, .int a26), (3, .int a27), (4, .int a28), (5, .int a29)] dX12_saying_71 6 rfl (by decide) (Nat.le_of_ble_eq_true rfl) rfl ?_
  refine x_goto X 40 dX12_saying_74 (by decide) ?_
  refine x_lv [1, 2, 3, 4, 5, 6, 0] rfl ?_
  exact hk40 h _ _ _ _ _ _ hf
set_option maxRecDepth 100000 in
set_option maxHeartbeats 4000000 in
theorem k_X12_saying_40 {ω : XO} (hω : ω.2.2.2.1 = 0) {κ : XK} (X : XC ω rm_X12_saying 7 κ cX12_saying "SignalBlindModel") {L : List Nat} {q : Nat → Nat} {h' : hp} {r : Int32} (R : XRet ω rm_X12_saying κ (some .int) L q h' (some (.int r))) : ∀ (n : Nat) (h : hp) (a10 : Int32) (a11 : Int32) (a12 : Int32) (a13 : Int32) (a14 : Int32) (a15 : Int32), f_X12_saying_40 n h a10 a11 a12 a13 a14 a15 = some (h', r) → XG ω rm_X12_saying 7 κ L q h 0 0 40 [(0, .ref (q 52)), (1, .int a10), (2, .int a11), (3, .int a12), (4, .int a13), (5, .int a14), (6, .int a15)] [] := by
  intro n
  induction n with
  | zero =>
    intro h a10 a11 a12 a13 a14 a15 hf
    have hf : (none : Option (hp × Int32)) = some (h', r) := hf
    cases hf
  | succ n ih =>
    intro h a10 a11 a12 a13 a14 a15 hf
    rw [f_X12_saying_40] at hf
    refine x_iload X dX12_saying_40 6 rfl ?_
    refine x_if_lt X 77 dX12_saying_42 (by decide) (fun c16 => ?_) (fun c16 => ?_)
    · replace hf := (if_pos c16).symm.trans hf
      refine x_iload_n X dX12_saying_77 3 rfl rfl ?_
      refine x_if_ne X 86 dX12_saying_78 (by decide) (fun c17 => ?_) (fun c17 => ?_)
      · replace hf := (if_pos c17).symm.trans hf
        refine x_iload X dX12_saying_81 5 rfl ?_
        refine x_goto X 88 dX12_saying_83 (by decide) ?_
        refine x_lv [] rfl ?_
        exact k_X12_saying_88 hω X R h _ hf
      · replace hf := (if_neg c17).symm.trans hf
        refine x_iload X dX12_saying_86 4 rfl ?_
        refine x_lv [] rfl ?_
        exact k_X12_saying_88 hω X R h _ hf
    · replace hf := (if_neg c16).symm.trans hf
      refine x_aload_n X dX12_saying_45 0 rfl rfl ?_
      refine x_iload_n X dX12_saying_46 1 rfl rfl ?_
      refine x_iload X dX12_saying_47 6 rfl ?_
      obtain ⟨h19, r20, g21, hf⟩ := bnd_some hf
      refine c_X12_290 X hω g21 (hR := ⟨Nat.le_of_ble_eq_true rfl, Nat.le_of_ble_eq_true rfl⟩) ⟨Nat.zero_le _, Nat.zero_le _⟩ (Nat.le_of_ble_eq_true rfl) dX12_saying_49 ?_
      refine x_aload_n X dX12_saying_52 0 rfl rfl ?_
      refine x_getsj X (i := 52) 1 fl_X12_19_13 (sdM_52 hω) (ks_52 _) rfl (j := 53) rfl dX12_saying_53 ?_
      refine x_iload_n X dX12_saying_56 2 rfl rfl ?_
      obtain ⟨z22, hf⟩ := chk_some hf
      refine x_iald X (i := 53) (n := 8) (sdM_53 hω) (ks_53 _) z22 dX12_saying_57 ?_
      refine x_icmp_eq X 64 dX12_saying_58 (by decide) (fun c23 => ?_) (fun c23 => ?_)
      · replace hf := (if_pos c23).symm.trans hf
        obtain ⟨v24, ev24, hf⟩ := nm_some hf
        refine x_iincN X (v := 1) ev24 [(4, .int v24), (0, .ref (q 52)), (1, .int a10), (2, .int a11), (3, .int a12), (5, .int a14), (6, .int a15)] dX12_saying_64 4 rfl (by decide) (Nat.le_of_ble_eq_true rfl) rfl ?_
        refine x_iload X dX12_saying_67 6 rfl ?_
        refine x_istore X [(5, .int a15), (4, .int v24), (0, .ref (q 52)), (1, .int a10), (2, .int a11), (3, .int a12), (6, .int a15)] dX12_saying_69 (Nat.le_of_ble_eq_true rfl) rfl ?_
        refine x_lv [2, 3, 4, 5, 1, 0, 6] rfl ?_
        exact k_X12_saying_71 hω X R _ ih h19 _ _ _ _ _ _ hf
      · replace hf := (if_neg c23).symm.trans hf
        refine x_goto X 71 dX12_saying_61 (by decide) ?_
        refine x_lv [0, 1, 2, 3, 4, 5, 6] rfl ?_
        exact k_X12_saying_71 hω X R _ ih h19 _ _ _ _ _ _ hf
set_option maxRecDepth 100000 in
set_option maxHeartbeats 4000000 in
theorem k_X12_saying {ω : XO} (hω : ω.2.2.2.1 = 0) {L : List Nat} {q : Nat → Nat} {h h' : hp} {p0 : Int32} {p1 : Int32} {p2 : Int32} {r : Int32} (hf : f_X12_saying h p0 p1 p2 = some (h', r)) : XM ω yX12_saying cX12_saying 7 (some .int) rm_X12_saying L q h [.ref (q 52), .int p0, .int p1, .int p2] (some (.int r)) h' := by
  refine XM_intro [(0, .ref (q 52)), (1, .int p0), (2, .int p1), (3, .int p2)] "SignalBlindModel" (by decide) rfl rfl (Nat.le_of_ble_eq_true rfl) (fun κ X R => ?_)
  unfold f_X12_saying at hf
  refine x_aload_n X dX12_saying_0 0 rfl rfl ?_
  refine x_iload_n X dX12_saying_1 1 rfl rfl ?_
  obtain ⟨r1, g2, hf⟩ := bnr_some hf
  refine c_X12_212 X hω g2 (hR := ⟨Nat.le_of_ble_eq_true rfl, Nat.le_of_ble_eq_true rfl⟩) ⟨Nat.zero_le _, Nat.zero_le _⟩ (Nat.le_of_ble_eq_true rfl) dX12_saying_2 ?_
  refine x_if_eq X 26 dX12_saying_5 (by decide) (fun c3 => ?_) (fun c3 => ?_)
  · replace hf := (if_pos c3).symm.trans hf
    refine x_lv [] rfl ?_
    exact k_X12_saying_26 hω X R h hf
  · replace hf := (if_neg c3).symm.trans hf
    refine x_aload_n X dX12_saying_8 0 rfl rfl ?_
    refine x_iload_n X dX12_saying_9 2 rfl rfl ?_
    obtain ⟨r4, g5, hf⟩ := bnr_some hf
    refine c_X12_209 X hω g5 (hR := ⟨Nat.le_of_ble_eq_true rfl, Nat.le_of_ble_eq_true rfl⟩) ⟨Nat.zero_le _, Nat.zero_le _⟩ (Nat.le_of_ble_eq_true rfl) dX12_saying_10 ?_
    refine x_if_eq X 26 dX12_saying_13 (by decide) (fun c6 => ?_) (fun c6 => ?_)
    · replace hf := (if_pos c6).symm.trans hf
      refine x_lv [] rfl ?_
      exact k_X12_saying_26 hω X R h hf
    · replace hf := (if_neg c6).symm.trans hf
      refine x_aload_n X dX12_saying_16 0 rfl rfl ?_
      refine x_iload_n X dX12_saying_17 3 rfl rfl ?_
      refine x_iconst X (v := 0) dX12_saying_18 (by decide) ?_
      refine x_iconst X (v := 1) dX12_saying_19 (by decide) ?_
      obtain ⟨r7, g8, hf⟩ := bnr_some hf
      refine c_X12_201 X hω g8 (hR := ⟨Nat.le_of_ble_eq_true rfl, Nat.le_of_ble_eq_true rfl⟩) ⟨Nat.zero_le _, Nat.zero_le _⟩ (Nat.le_of_ble_eq_true rfl) dX12_saying_20 ?_
      refine x_if_ne X 28 dX12_saying_23 (by decide) (fun c9 => ?_) (fun c9 => ?_)
      · replace hf := (if_pos c9).symm.trans hf
        refine x_lv [] rfl ?_
        exact k_X12_saying_26 hω X R h hf
      · replace hf := (if_neg c9).symm.trans hf
        refine x_iconst X (v := 0) dX12_saying_28 (by decide) ?_
        refine x_istore X [(4, .int (0 : Int32)), (0, .ref (q 52)), (1, .int p0), (2, .int p1), (3, .int p2)] dX12_saying_29 (Nat.le_of_ble_eq_true rfl) rfl ?_
        refine x_bipush X (v := -5) dX12_saying_31 (by decide) ?_
        refine x_istore X [(5, .int (-5 : Int32)), (4, .int (0 : Int32)), (0, .ref (q 52)), (1, .int p0), (2, .int p1), (3, .int p2)] dX12_saying_33 (Nat.le_of_ble_eq_true rfl) rfl ?_
        refine x_sipush X (v := 1023) dX12_saying_35 (by decide) ?_
        refine x_istore X [(6, .int (1023 : Int32)), (5, .int (-5 : Int32)), (4, .int (0 : Int32)), (0, .ref (q 52)), (1, .int p0), (2, .int p1), (3, .int p2)] dX12_saying_38 (Nat.le_of_ble_eq_true rfl) rfl ?_
        refine x_lv [3, 4, 5, 6, 2, 1, 0] rfl ?_
        exact k_X12_saying_40 hω X R _ h _ _ _ _ _ _ hf
theorem mt_X12_saying : MT yX12_saying cX12_saying 7 (some .int) "SignalBlindModel" 3 := ⟨(mT_6 177 rfl rfl), (mT_6 178 rfl rfl), (mT_1 10 rfl rfl), (mT_6 179 rfl rfl), by decide⟩

abbrev rm_X12_hours : Room := { frames := 7, cells := 0, slots := 0, locals := 166 }
def f_X12_hours_16 (h : hp) : Option (hp × Int32) := (some (h, (-1 : Int32)))
def f_X12_hours_48 (k23 : hp → Int32 → Int32 → Int32 → Int32 → Option (hp × Int32)) (h : hp) (a16 : Int32) (a17 : Int32) (a18 : Int32) (a19 : Int32) (a20 : Int32) : Option (hp × Int32) := (nm (a20 ||| a19) fun v21 =>
 (nm (sI h 52 2 ((hI h 52 2) + (1 : Int32))) fun h22 =>
 (nm (a18 + (1 : Int32)) fun v23 =>
 (k23 h22 a16 a17 v21 v23))))
def f_X12_hours_23 : Nat → hp → Int32 → Int32 → Int32 → Int32 → Option (hp × Int32)
  | 0, _, _, _, _, _ => none
  | n + 1, h, a7, a8, a9, a10 => (if a10 < (24 : Int32) then
 (bnd (f_X12_isThrough h a7 a8) fun h12 r13 =>
 (if r13 = 0 then
 (f_X12_hours_48 (f_X12_hours_23 n) h12 a7 a8 a10 (0 : Int32) a9)
 else
 (f_X12_hours_48 (f_X12_hours_23 n) h12 a7 a8 a10 ((1 : Int32) <<< (a10 &&& 31)) a9)))
 else
 (nm (sI h 52 2 ((hI h 52 2) - (24 : Int32))) fun h24 =>
 (some (h24, a9))))
def f_X12_hours (h : hp) (p0 : Int32) (p1 : Int32) : Option (hp × Int32) := (bnr (f_X12_isSender h p0) fun r1 =>
 (if r1 = 0 then
 (f_X12_hours_16 h)
 else
 (bnr (f_X12_isWord h p1) fun r4 =>
 (if r4 = 0 then
 (f_X12_hours_16 h)
 else
 (f_X12_hours_23 2000 h p0 p1 (0 : Int32) (0 : Int32))))))
set_option maxRecDepth 100000 in
set_option maxHeartbeats 4000000 in
theorem k_X12_hours_16 {ω : XO} (hω : ω.2.2.2.1 = 0) {κ : XK} (X : XC ω rm_X12_hours 5 κ cX12_hours "SignalBlindModel") {L : List Nat} {q : Nat → Nat} {h' : hp} {r : Int32} (R : XRet ω rm_X12_hours κ (some .int) L q h' (some (.int r))) : ∀ (h : hp), f_X12_hours_16 h = some (h', r) → XG ω rm_X12_hours 5 κ L q h 0 0 16 [] [] := by
  intro h hf
  unfold f_X12_hours_16 at hf
  refine x_iconst X (v := -1) dX12_hours_16 (by decide) ?_
  exact x_retSI X R hf dX12_hours_17
set_option maxRecDepth 100000 in
set_option maxHeartbeats 4000000 in
theorem k_X12_hours_48 {ω : XO} (hω : ω.2.2.2.1 = 0) {κ : XK} (X : XC ω rm_X12_hours 5 κ cX12_hours "SignalBlindModel") {L : List Nat} {q : Nat → Nat} {h' : hp} {r : Int32} (R : XRet ω rm_X12_hours κ (some .int) L q h' (some (.int r))) (k23 : hp → Int32 → Int32 → Int32 → Int32 → Option (hp × Int32)) (hk23 : ∀ (h : hp) (a7 : Int32) (a8 : Int32) (a9 : Int32) (a10 : Int32), k23 h a7 a8 a9 a10 = some (h', r) → XG ω rm_X12_hours 5 κ L q h 0 0 23 [(0, .ref (q 52)), (1, .int a7), (2, .int a8), (3, .int a9), (4, .int a10)] []) : ∀ (h : hp) (a16 : Int32) (a17 : Int32) (a18 : Int32) (a19 : Int32) (a20 : Int32), f_X12_hours_48 k23 h a16 a17 a18 a19 a20 = some (h', r) → XG ω rm_X12_hours 5 κ L q h 0 0 48 [(0, .ref (q 52)), (1, .int a16), (2, .int a17), (4, .int a18)] [.int a19, .int a20] := by
  intro h a16 a17 a18 a19 a20 hf
  unfold f_X12_hours_48 at hf
  refine x_ior X dX12_hours_48 ?_
  obtain ⟨v21, ev21, hf⟩ := nm_some hf
  refine x_nmI ev21 ?_
  refine x_istore_n X [(3, .int v21), (0, .ref (q 52)), (1, .int a16), (2, .int a17), (4, .int a18)] dX12_hours_49 rfl (Nat.le_of_ble_eq_true rfl) rfl ?_
  refine x_aload_n X dX12_hours_50 1 rfl rfl ?_
  refine x_dup X dX12_hours_51 rfl ?_
  refine x_geti X (i := 52) fl_X12_16_13 (sdM_52 hω) (ks_52 _) rfl dX12_hours_52 ?_
  refine x_iconst X (v := 1) dX12_hours_55 (by decide) ?_
  refine x_iadd X dX12_hours_56 ?_
  refine x_puti X (i := 52) fl_X12_16_13 fw_13 (sdM_52 hω) (ks_52 _) rfl rfl rfl rfl dX12_hours_57 ?_
  obtain ⟨h22, eh22, hf⟩ := nm_some hf
  refine x_nmh eh22 ?_
  obtain ⟨v23, ev23, hf⟩ := nm_some hf
  refine x_iincN X (v := 1) ev23 [(4, .int v23), (3, .int v21), (0, .ref (q 52)), (1, .int a16), (2, .int a17)] dX12_hours_60 4 rfl (by decide) (Nat.le_of_ble_eq_true rfl) rfl ?_
  refine x_goto X 23 dX12_hours_63 (by decide) ?_
  refine x_lv [2, 3, 4, 1, 0] rfl ?_
  exact hk23 h22 _ _ _ _ hf
set_option maxRecDepth 100000 in
set_option maxHeartbeats 4000000 in
theorem k_X12_hours_23 {ω : XO} (hω : ω.2.2.2.1 = 0) {κ : XK} (X : XC ω rm_X12_hours 5 κ cX12_hours "SignalBlindModel") {L : List Nat} {q : Nat → Nat} {h' : hp} {r : Int32} (R : XRet ω rm_X12_hours κ (some .int) L q h' (some (.int r))) : ∀ (n : Nat) (h : hp) (a7 : Int32) (a8 : Int32) (a9 : Int32) (a10 : Int32), f_X12_hours_23 n h a7 a8 a9 a10 = some (h', r) → XG ω rm_X12_hours 5 κ L q h 0 0 23 [(0, .ref (q 52)), (1, .int a7), (2, .int a8), (3, .int a9), (4, .int a10)] [] := by
  intro n
  induction n with
  | zero =>
    intro h a7 a8 a9 a10 hf
    have hf : (none : Option (hp × Int32)) = some (h', r) := hf
    cases hf
  | succ n ih =>
    intro h a7 a8 a9 a10 hf
    rw [f_X12_hours_23] at hf
    refine x_iload X dX12_hours_23 4 rfl ?_
    refine x_bipush X (v := 24) dX12_hours_25 (by decide) ?_
    refine x_icmp_ge X 66 dX12_hours_27 (by decide) (fun c11 => ?_) (fun c11 => ?_)
    · replace hf := (if_pos c11).symm.trans hf
      refine x_iload_n X dX12_hours_30 3 rfl rfl ?_
      refine x_aload_n X dX12_hours_31 0 rfl rfl ?_
      refine x_iload_n X dX12_hours_32 1 rfl rfl ?_
      refine x_iload_n X dX12_hours_33 2 rfl rfl ?_
      obtain ⟨h12, r13, g14, hf⟩ := bnd_some hf
      refine c_X12_296 X hω g14 (hR := ⟨Nat.le_of_ble_eq_true rfl, Nat.le_of_ble_eq_true rfl⟩) ⟨Nat.zero_le _, Nat.zero_le _⟩ (Nat.le_of_ble_eq_true rfl) dX12_hours_34 ?_
      refine x_if_eq X 47 dX12_hours_37 (by decide) (fun c15 => ?_) (fun c15 => ?_)
      · replace hf := (if_pos c15).symm.trans hf
        refine x_iconst X (v := 0) dX12_hours_47 (by decide) ?_
        refine x_lv [0, 1, 2, 4] rfl ?_
        exact k_X12_hours_48 hω X R _ ih h12 _ _ _ _ _ hf
      · replace hf := (if_neg c15).symm.trans hf
        refine x_iconst X (v := 1) dX12_hours_40 (by decide) ?_
        refine x_iload X dX12_hours_41 4 rfl ?_
        refine x_ishl X dX12_hours_43 ?_
        refine x_goto X 48 dX12_hours_44 (by decide) ?_
        refine x_lv [0, 1, 2, 4] rfl ?_
        exact k_X12_hours_48 hω X R _ ih h12 _ _ _ _ _ hf
    · replace hf := (if_neg c11).symm.trans hf
      refine x_aload_n X dX12_hours_66 0 rfl rfl ?_
      refine x_dup X dX12_hours_67 rfl ?_
      refine x_geti X (i := 52) fl_X12_16_13 (sdM_52 hω) (ks_52 _) rfl dX12_hours_68 ?_
      refine x_bipush X (v := 24) dX12_hours_71 (by decide) ?_
      refine x_isub X dX12_hours_73 ?_
      refine x_puti X (i := 52) fl_X12_16_13 fw_13 (sdM_52 hω) (ks_52 _) rfl rfl rfl rfl dX12_hours_74 ?_
      obtain ⟨h24, eh24, hf⟩ := nm_some hf
      refine x_nmh eh24 ?_
      refine x_iload_n X dX12_hours_77 3 rfl rfl ?_
      exact x_retSI X R hf dX12_hours_78
set_option maxRecDepth 100000 in
set_option maxHeartbeats 4000000 in
theorem k_X12_hours {ω : XO} (hω : ω.2.2.2.1 = 0) {L : List Nat} {q : Nat → Nat} {h h' : hp} {p0 : Int32} {p1 : Int32} {r : Int32} (hf : f_X12_hours h p0 p1 = some (h', r)) : XM ω yX12_hours cX12_hours 5 (some .int) rm_X12_hours L q h [.ref (q 52), .int p0, .int p1] (some (.int r)) h' := by
  refine XM_intro [(0, .ref (q 52)), (1, .int p0), (2, .int p1)] "SignalBlindModel" (by decide) rfl rfl (Nat.le_of_ble_eq_true rfl) (fun κ X R => ?_)
  unfold f_X12_hours at hf
  refine x_aload_n X dX12_hours_0 0 rfl rfl ?_
  refine x_iload_n X dX12_hours_1 1 rfl rfl ?_
  obtain ⟨r1, g2, hf⟩ := bnr_some hf
  refine c_X12_212 X hω g2 (hR := ⟨Nat.le_of_ble_eq_true rfl, Nat.le_of_ble_eq_true rfl⟩) ⟨Nat.zero_le _, Nat.zero_le _⟩ (Nat.le_of_ble_eq_true rfl) dX12_hours_2 ?_
  refine x_if_eq X 16 dX12_hours_5 (by decide) (fun c3 => ?_) (fun c3 => ?_)
  · replace hf := (if_pos c3).symm.trans hf
    refine x_lv [] rfl ?_
    exact k_X12_hours_16 hω X R h hf
  · replace hf := (if_neg c3).symm.trans hf
    refine x_aload_n X dX12_hours_8 0 rfl rfl ?_
    refine x_iload_n X dX12_hours_9 2 rfl rfl ?_
    obtain ⟨r4, g5, hf⟩ := bnr_some hf
    refine c_X12_209 X hω g5 (hR := ⟨Nat.le_of_ble_eq_true rfl, Nat.le_of_ble_eq_true rfl⟩) ⟨Nat.zero_le _, Nat.zero_le _⟩ (Nat.le_of_ble_eq_true rfl) dX12_hours_10 ?_
    refine x_if_ne X 18 dX12_hours_13 (by decide) (fun c6 => ?_) (fun c6 => ?_)
    · replace hf := (if_pos c6).symm.trans hf
      refine x_lv [] rfl ?_
      exact k_X12_hours_16 hω X R h hf
    · replace hf := (if_neg c6).symm.trans hf
      refine x_iconst X (v := 0) dX12_hours_18 (by decide) ?_
      refine x_istore_n X [(3, .int (0 : Int32)), (0, .ref (q 52)), (1, .int p0), (2, .int p1)] dX12_hours_19 rfl (Nat.le_of_ble_eq_true rfl) rfl ?_
      refine x_iconst X (v := 0) dX12_hours_20 (by decide) ?_
      refine x_istore X [(4, .int (0 : Int32)), (3, .int (0 : Int32)), (0, .ref (q 52)), (1, .int p0), (2, .int p1)] dX12_hours_21 (Nat.le_of_ble_eq_true rfl) rfl ?_
      refine x_lv [2, 3, 4, 1, 0] rfl ?_
      exact k_X12_hours_23 hω X R _ h _ _ _ _ hf
theorem mt_X12_hours : MT yX12_hours cX12_hours 5 (some .int) "SignalBlindModel" 2 := ⟨(mT_6 181 rfl rfl), (mT_6 182 rfl rfl), (mT_1 10 rfl rfl), (mT_6 183 rfl rfl), by decide⟩

abbrev rm_X12_senders : Room := { frames := 6, cells := 0, slots := 0, locals := 144 }
def f_X12_senders_60 (k26 : hp → Int32 → Int32 → Int32 → Int32 → Option (hp × Int32)) (h : hp) (a17 : Int32) (a18 : Int32) (a19 : Int32) (a20 : Int32) (a21 : Int32) : Option (hp × Int32) := (nm (a21 ||| a20) fun v22 =>
 (nm (a19 + (1 : Int32)) fun v23 =>
 (k26 h a17 a18 v22 v23)))
def f_X12_senders_26 : Nat → hp → Int32 → Int32 → Int32 → Int32 → Option (hp × Int32)
  | 0, _, _, _, _, _ => none
  | n + 1, h, a7, a8, a9, a10 => (if a10 < (hI h 52 1) then
 (chk a7 8
 (bnd (f_X12_showsOf h a10 (aI h 53 (a7).toNatClampNeg)) fun h13 r14 =>
 (if r14 = a8 then
 (f_X12_senders_60 (f_X12_senders_26 n) h13 a7 a8 a10 ((1 : Int32) <<< (a10 &&& 31)) a9)
 else
 (f_X12_senders_60 (f_X12_senders_26 n) h13 a7 a8 a10 (0 : Int32) a9))))
 else
 (some (h, a9)))
def f_X12_senders (h : hp) (p0 : Int32) (p1 : Int32) : Option (hp × Int32) := (bnr (f_X12_isWord h p0) fun r1 =>
 (if r1 = 0 then
 (some (h, (-1 : Int32)))
 else
 (bnr (f_X12_isSign h p1) fun r4 =>
 (if r4 = 0 then
 (some (h, (-2 : Int32)))
 else
 (f_X12_senders_26 2000 h p0 p1 (0 : Int32) (0 : Int32))))))
set_option maxRecDepth 100000 in
set_option maxHeartbeats 4000000 in
theorem k_X12_senders_60 {ω : XO} (hω : ω.2.2.2.1 = 0) {κ : XK} (X : XC ω rm_X12_senders 5 κ cX12_senders "SignalBlindModel") {L : List Nat} {q : Nat → Nat} {h' : hp} {r : Int32} (R : XRet ω rm_X12_senders κ (some .int) L q h' (some (.int r))) (k26 : hp → Int32 → Int32 → Int32 → Int32 → Option (hp × Int32)) (hk26 : ∀ (h : hp) (a7 : Int32) (a8 : Int32) (a9 : Int32) (a10 : Int32), k26 h a7 a8 a9 a10 = some (h', r) → XG ω rm_X12_senders 5 κ L q h 0 0 26 [(0, .ref (q 52)), (1, .int a7), (2, .int a8), (3, .int a9), (4, .int a10)] []) : ∀ (h : hp) (a17 : Int32) (a18 : Int32) (a19 : Int32) (a20 : Int32) (a21 : Int32), f_X12_senders_60 k26 h a17 a18 a19 a20 a21 = some (h', r) → XG ω rm_X12_senders 5 κ L q h 0 0 60 [(0, .ref (q 52)), (1, .int a17), (2, .int a18), (4, .int a19)] [.int a20, .int a21] := by
  intro h a17 a18 a19 a20 a21 hf
  unfold f_X12_senders_60 at hf
  refine x_ior X dX12_senders_60 ?_
  obtain ⟨v22, ev22, hf⟩ := nm_some hf
  refine x_nmI ev22 ?_
  refine x_istore_n X [(3, .int v22), (0, .ref (q 52)), (1, .int a17), (2, .int a18), (4, .int a19)] dX12_senders_61 rfl (Nat.le_of_ble_eq_true rfl) rfl ?_
  obtain ⟨v23, ev23, hf⟩ := nm_some hf
  refine x_iincN X (v := 1) ev23 [(4, .int v23), (3, .int v22), (0, .ref (q 52)), (1, .int a17), (2, .int a18)] dX12_senders_62 4 rfl (by decide) (Nat.le_of_ble_eq_true rfl) rfl ?_
  refine x_goto X 26 dX12_senders_65 (by decide) ?_
  refine x_lv [2, 3, 4, 1, 0] rfl ?_
  exact hk26 h _ _ _ _ hf
set_option maxRecDepth 100000 in
set_option maxHeartbeats 4000000 in
theorem k_X12_senders_26 {ω : XO} (hω : ω.2.2.2.1 = 0) {κ : XK} (X : XC ω rm_X12_senders 5 κ cX12_senders "SignalBlindModel") {L : List Nat} {q : Nat → Nat} {h' : hp} {r : Int32} (R : XRet ω rm_X12_senders κ (some .int) L q h' (some (.int r))) : ∀ (n : Nat) (h : hp) (a7 : Int32) (a8 : Int32) (a9 : Int32) (a10 : Int32), f_X12_senders_26 n h a7 a8 a9 a10 = some (h', r) → XG ω rm_X12_senders 5 κ L q h 0 0 26 [(0, .ref (q 52)), (1, .int a7), (2, .int a8), (3, .int a9), (4, .int a10)] [] := by
  intro n
  induction n with
  | zero =>
    intro h a7 a8 a9 a10 hf
    have hf : (none : Option (hp × Int32)) = some (h', r) := hf
    cases hf
  | succ n ih =>
    intro h a7 a8 a9 a10 hf
    rw [f_X12_senders_26] at hf
    refine x_iload X dX12_senders_26 4 rfl ?_
    refine x_aload_n X dX12_senders_28 0 rfl rfl ?_
    refine x_geti X (i := 52) fl_X12_13_13 (sdM_52 hω) (ks_52 _) rfl dX12_senders_29 ?_
    refine x_icmp_ge X 68 dX12_senders_32 (by decide) (fun c11 => ?_) (fun c11 => ?_)
    · replace hf := (if_pos c11).symm.trans hf
      refine x_iload_n X dX12_senders_35 3 rfl rfl ?_
      refine x_aload_n X dX12_senders_36 0 rfl rfl ?_
      refine x_iload X dX12_senders_37 4 rfl ?_
      refine x_aload_n X dX12_senders_39 0 rfl rfl ?_
      refine x_getsj X (i := 52) 1 fl_X12_19_13 (sdM_52 hω) (ks_52 _) rfl (j := 53) rfl dX12_senders_40 ?_
      refine x_iload_n X dX12_senders_43 1 rfl rfl ?_
      obtain ⟨z12, hf⟩ := chk_some hf
      refine x_iald X (i := 53) (n := 8) (sdM_53 hω) (ks_53 _) z12 dX12_senders_44 ?_
      obtain ⟨h13, r14, g15, hf⟩ := bnd_some hf
      refine c_X12_290 X hω g15 (hR := ⟨Nat.le_of_ble_eq_true rfl, Nat.le_of_ble_eq_true rfl⟩) ⟨Nat.zero_le _, Nat.zero_le _⟩ (Nat.le_of_ble_eq_true rfl) dX12_senders_45 ?_
      refine x_iload_n X dX12_senders_48 2 rfl rfl ?_
      refine x_icmp_ne X 59 dX12_senders_49 (by decide) (fun c16 => ?_) (fun c16 => ?_)
      · replace hf := (if_pos c16).symm.trans hf
        refine x_iconst X (v := 1) dX12_senders_52 (by decide) ?_
        refine x_iload X dX12_senders_53 4 rfl ?_
        refine x_ishl X dX12_senders_55 ?_
        refine x_goto X 60 dX12_senders_56 (by decide) ?_
        refine x_lv [0, 1, 2, 4] rfl ?_
        exact k_X12_senders_60 hω X R _ ih h13 _ _ _ _ _ hf
      · replace hf := (if_neg c16).symm.trans hf
        refine x_iconst X (v := 0) dX12_senders_59 (by decide) ?_
        refine x_lv [0, 1, 2, 4] rfl ?_
        exact k_X12_senders_60 hω X R _ ih h13 _ _ _ _ _ hf
    · replace hf := (if_neg c11).symm.trans hf
      refine x_iload_n X dX12_senders_68 3 rfl rfl ?_
      exact x_retSI X R hf dX12_senders_69
set_option maxRecDepth 100000 in
set_option maxHeartbeats 4000000 in
theorem k_X12_senders {ω : XO} (hω : ω.2.2.2.1 = 0) {L : List Nat} {q : Nat → Nat} {h h' : hp} {p0 : Int32} {p1 : Int32} {r : Int32} (hf : f_X12_senders h p0 p1 = some (h', r)) : XM ω yX12_senders cX12_senders 5 (some .int) rm_X12_senders L q h [.ref (q 52), .int p0, .int p1] (some (.int r)) h' := by
  refine XM_intro [(0, .ref (q 52)), (1, .int p0), (2, .int p1)] "SignalBlindModel" (by decide) rfl rfl (Nat.le_of_ble_eq_true rfl) (fun κ X R => ?_)
  unfold f_X12_senders at hf
  refine x_aload_n X dX12_senders_0 0 rfl rfl ?_
  refine x_iload_n X dX12_senders_1 1 rfl rfl ?_
  obtain ⟨r1, g2, hf⟩ := bnr_some hf
  refine c_X12_209 X hω g2 (hR := ⟨Nat.le_of_ble_eq_true rfl, Nat.le_of_ble_eq_true rfl⟩) ⟨Nat.zero_le _, Nat.zero_le _⟩ (Nat.le_of_ble_eq_true rfl) dX12_senders_2 ?_
  refine x_if_ne X 10 dX12_senders_5 (by decide) (fun c3 => ?_) (fun c3 => ?_)
  · replace hf := (if_pos c3).symm.trans hf
    refine x_iconst X (v := -1) dX12_senders_8 (by decide) ?_
    exact x_retSI X R hf dX12_senders_9
  · replace hf := (if_neg c3).symm.trans hf
    refine x_aload_n X dX12_senders_10 0 rfl rfl ?_
    refine x_iload_n X dX12_senders_11 2 rfl rfl ?_
    obtain ⟨r4, g5, hf⟩ := bnr_some hf
    refine c_X12_205 X hω g5 (hR := ⟨Nat.le_of_ble_eq_true rfl, Nat.le_of_ble_eq_true rfl⟩) ⟨Nat.zero_le _, Nat.zero_le _⟩ (Nat.le_of_ble_eq_true rfl) dX12_senders_12 ?_
    refine x_if_ne X 21 dX12_senders_15 (by decide) (fun c6 => ?_) (fun c6 => ?_)
    · replace hf := (if_pos c6).symm.trans hf
      refine x_bipush X (v := -2) dX12_senders_18 (by decide) ?_
      exact x_retSI X R hf dX12_senders_20
    · replace hf := (if_neg c6).symm.trans hf
      refine x_iconst X (v := 0) dX12_senders_21 (by decide) ?_
      refine x_istore_n X [(3, .int (0 : Int32)), (0, .ref (q 52)), (1, .int p0), (2, .int p1)] dX12_senders_22 rfl (Nat.le_of_ble_eq_true rfl) rfl ?_
      refine x_iconst X (v := 0) dX12_senders_23 (by decide) ?_
      refine x_istore X [(4, .int (0 : Int32)), (3, .int (0 : Int32)), (0, .ref (q 52)), (1, .int p0), (2, .int p1)] dX12_senders_24 (Nat.le_of_ble_eq_true rfl) rfl ?_
      refine x_lv [2, 3, 4, 1, 0] rfl ?_
      exact k_X12_senders_26 hω X R _ h _ _ _ _ hf
theorem mt_X12_senders : MT yX12_senders cX12_senders 5 (some .int) "SignalBlindModel" 2 := ⟨(mT_6 185 rfl rfl), (mT_6 186 rfl rfl), (mT_1 10 rfl rfl), (mT_6 187 rfl rfl), by decide⟩

abbrev rm_X12_meant : Room := { frames := 6, cells := 0, slots := 0, locals := 144 }
def f_X12_meant_60 (k26 : hp → Int32 → Int32 → Int32 → Int32 → Option (hp × Int32)) (h : hp) (a17 : Int32) (a18 : Int32) (a19 : Int32) (a20 : Int32) (a21 : Int32) : Option (hp × Int32) := (nm (a21 ||| a20) fun v22 =>
 (nm (a19 + (1 : Int32)) fun v23 =>
 (k26 h a17 a18 v22 v23)))
def f_X12_meant_26 : Nat → hp → Int32 → Int32 → Int32 → Int32 → Option (hp × Int32)
  | 0, _, _, _, _, _ => none
  | n + 1, h, a7, a8, a9, a10 => (if a10 < (hI h 52 0) then
 (chk a10 8
 (bnd (f_X12_showsOf h a7 (aI h 53 (a10).toNatClampNeg)) fun h13 r14 =>
 (if r14 = a8 then
 (f_X12_meant_60 (f_X12_meant_26 n) h13 a7 a8 a10 ((1 : Int32) <<< (a10 &&& 31)) a9)
 else
 (f_X12_meant_60 (f_X12_meant_26 n) h13 a7 a8 a10 (0 : Int32) a9))))
 else
 (some (h, a9)))
def f_X12_meant (h : hp) (p0 : Int32) (p1 : Int32) : Option (hp × Int32) := (bnr (f_X12_isSender h p0) fun r1 =>
 (if r1 = 0 then
 (some (h, (-1 : Int32)))
 else
 (bnr (f_X12_isSign h p1) fun r4 =>
 (if r4 = 0 then
 (some (h, (-2 : Int32)))
 else
 (f_X12_meant_26 2000 h p0 p1 (0 : Int32) (0 : Int32))))))
set_option maxRecDepth 100000 in
set_option maxHeartbeats 4000000 in
theorem k_X12_meant_60 {ω : XO} (hω : ω.2.2.2.1 = 0) {κ : XK} (X : XC ω rm_X12_meant 5 κ cX12_meant "SignalBlindModel") {L : List Nat} {q : Nat → Nat} {h' : hp} {r : Int32} (R : XRet ω rm_X12_meant κ (some .int) L q h' (some (.int r))) (k26 : hp → Int32 → Int32 → Int32 → Int32 → Option (hp × Int32)) (hk26 : ∀ (h : hp) (a7 : Int32) (a8 : Int32) (a9 : Int32) (a10 : Int32), k26 h a7 a8 a9 a10 = some (h', r) → XG ω rm_X12_meant 5 κ L q h 0 0 26 [(0, .ref (q 52)), (1, .int a7), (2, .int a8), (3, .int a9), (4, .int a10)] []) : ∀ (h : hp) (a17 : Int32) (a18 : Int32) (a19 : Int32) (a20 : Int32) (a21 : Int32), f_X12_meant_60 k26 h a17 a18 a19 a20 a21 = some (h', r) → XG ω rm_X12_meant 5 κ L q h 0 0 60 [(0, .ref (q 52)), (1, .int a17), (2, .int a18), (4, .int a19)] [.int a20, .int a21] := by
  intro h a17 a18 a19 a20 a21 hf
  unfold f_X12_meant_60 at hf
  refine x_ior X dX12_meant_60 ?_
  obtain ⟨v22, ev22, hf⟩ := nm_some hf
  refine x_nmI ev22 ?_
  refine x_istore_n X [(3, .int v22), (0, .ref (q 52)), (1, .int a17), (2, .int a18), (4, .int a19)] dX12_meant_61 rfl (Nat.le_of_ble_eq_true rfl) rfl ?_
  obtain ⟨v23, ev23, hf⟩ := nm_some hf
  refine x_iincN X (v := 1) ev23 [(4, .int v23), (3, .int v22), (0, .ref (q 52)), (1, .int a17), (2, .int a18)] dX12_meant_62 4 rfl (by decide) (Nat.le_of_ble_eq_true rfl) rfl ?_
  refine x_goto X 26 dX12_meant_65 (by decide) ?_
  refine x_lv [2, 3, 4, 1, 0] rfl ?_
  exact hk26 h _ _ _ _ hf
set_option maxRecDepth 100000 in
set_option maxHeartbeats 4000000 in
theorem k_X12_meant_26 {ω : XO} (hω : ω.2.2.2.1 = 0) {κ : XK} (X : XC ω rm_X12_meant 5 κ cX12_meant "SignalBlindModel") {L : List Nat} {q : Nat → Nat} {h' : hp} {r : Int32} (R : XRet ω rm_X12_meant κ (some .int) L q h' (some (.int r))) : ∀ (n : Nat) (h : hp) (a7 : Int32) (a8 : Int32) (a9 : Int32) (a10 : Int32), f_X12_meant_26 n h a7 a8 a9 a10 = some (h', r) → XG ω rm_X12_meant 5 κ L q h 0 0 26 [(0, .ref (q 52)), (1, .int a7), (2, .int a8), (3, .int a9), (4, .int a10)] [] := by
  intro n
  induction n with
  | zero =>
    intro h a7 a8 a9 a10 hf
    have hf : (none : Option (hp × Int32)) = some (h', r) := hf
    cases hf
  | succ n ih =>
    intro h a7 a8 a9 a10 hf
    rw [f_X12_meant_26] at hf
    refine x_iload X dX12_meant_26 4 rfl ?_
    refine x_aload_n X dX12_meant_28 0 rfl rfl ?_
    refine x_geti X (i := 52) fl_X12_7_13 (sdM_52 hω) (ks_52 _) rfl dX12_meant_29 ?_
    refine x_icmp_ge X 68 dX12_meant_32 (by decide) (fun c11 => ?_) (fun c11 => ?_)
    · replace hf := (if_pos c11).symm.trans hf
      refine x_iload_n X dX12_meant_35 3 rfl rfl ?_
      refine x_aload_n X dX12_meant_36 0 rfl rfl ?_
      refine x_iload_n X dX12_meant_37 1 rfl rfl ?_
      refine x_aload_n X dX12_meant_38 0 rfl rfl ?_
      refine x_getsj X (i := 52) 1 fl_X12_19_13 (sdM_52 hω) (ks_52 _) rfl (j := 53) rfl dX12_meant_39 ?_
      refine x_iload X dX12_meant_42 4 rfl ?_
      obtain ⟨z12, hf⟩ := chk_some hf
      refine x_iald X (i := 53) (n := 8) (sdM_53 hω) (ks_53 _) z12 dX12_meant_44 ?_
      obtain ⟨h13, r14, g15, hf⟩ := bnd_some hf
      refine c_X12_290 X hω g15 (hR := ⟨Nat.le_of_ble_eq_true rfl, Nat.le_of_ble_eq_true rfl⟩) ⟨Nat.zero_le _, Nat.zero_le _⟩ (Nat.le_of_ble_eq_true rfl) dX12_meant_45 ?_
      refine x_iload_n X dX12_meant_48 2 rfl rfl ?_
      refine x_icmp_ne X 59 dX12_meant_49 (by decide) (fun c16 => ?_) (fun c16 => ?_)
      · replace hf := (if_pos c16).symm.trans hf
        refine x_iconst X (v := 1) dX12_meant_52 (by decide) ?_
        refine x_iload X dX12_meant_53 4 rfl ?_
        refine x_ishl X dX12_meant_55 ?_
        refine x_goto X 60 dX12_meant_56 (by decide) ?_
        refine x_lv [0, 1, 2, 4] rfl ?_
        exact k_X12_meant_60 hω X R _ ih h13 _ _ _ _ _ hf
      · replace hf := (if_neg c16).symm.trans hf
        refine x_iconst X (v := 0) dX12_meant_59 (by decide) ?_
        refine x_lv [0, 1, 2, 4] rfl ?_
        exact k_X12_meant_60 hω X R _ ih h13 _ _ _ _ _ hf
    · replace hf := (if_neg c11).symm.trans hf
      refine x_iload_n X dX12_meant_68 3 rfl rfl ?_
      exact x_retSI X R hf dX12_meant_69
set_option maxRecDepth 100000 in
set_option maxHeartbeats 4000000 in
theorem k_X12_meant {ω : XO} (hω : ω.2.2.2.1 = 0) {L : List Nat} {q : Nat → Nat} {h h' : hp} {p0 : Int32} {p1 : Int32} {r : Int32} (hf : f_X12_meant h p0 p1 = some (h', r)) : XM ω yX12_meant cX12_meant 5 (some .int) rm_X12_meant L q h [.ref (q 52), .int p0, .int p1] (some (.int r)) h' := by
  refine XM_intro [(0, .ref (q 52)), (1, .int p0), (2, .int p1)] "SignalBlindModel" (by decide) rfl rfl (Nat.le_of_ble_eq_true rfl) (fun κ X R => ?_)
  unfold f_X12_meant at hf
  refine x_aload_n X dX12_meant_0 0 rfl rfl ?_
  refine x_iload_n X dX12_meant_1 1 rfl rfl ?_
  obtain ⟨r1, g2, hf⟩ := bnr_some hf
  refine c_X12_212 X hω g2 (hR := ⟨Nat.le_of_ble_eq_true rfl, Nat.le_of_ble_eq_true rfl⟩) ⟨Nat.zero_le _, Nat.zero_le _⟩ (Nat.le_of_ble_eq_true rfl) dX12_meant_2 ?_
  refine x_if_ne X 10 dX12_meant_5 (by decide) (fun c3 => ?_) (fun c3 => ?_)
  · replace hf := (if_pos c3).symm.trans hf
    refine x_iconst X (v := -1) dX12_meant_8 (by decide) ?_
    exact x_retSI X R hf dX12_meant_9
  · replace hf := (if_neg c3).symm.trans hf
    refine x_aload_n X dX12_meant_10 0 rfl rfl ?_
    refine x_iload_n X dX12_meant_11 2 rfl rfl ?_
    obtain ⟨r4, g5, hf⟩ := bnr_some hf
    refine c_X12_205 X hω g5 (hR := ⟨Nat.le_of_ble_eq_true rfl, Nat.le_of_ble_eq_true rfl⟩) ⟨Nat.zero_le _, Nat.zero_le _⟩ (Nat.le_of_ble_eq_true rfl) dX12_meant_12 ?_
    refine x_if_ne X 21 dX12_meant_15 (by decide) (fun c6 => ?_) (fun c6 => ?_)
    · replace hf := (if_pos c6).symm.trans hf
      refine x_bipush X (v := -2) dX12_meant_18 (by decide) ?_
      exact x_retSI X R hf dX12_meant_20
    · replace hf := (if_neg c6).symm.trans hf
      refine x_iconst X (v := 0) dX12_meant_21 (by decide) ?_
      refine x_istore_n X [(3, .int (0 : Int32)), (0, .ref (q 52)), (1, .int p0), (2, .int p1)] dX12_meant_22 rfl (Nat.le_of_ble_eq_true rfl) rfl ?_
      refine x_iconst X (v := 0) dX12_meant_23 (by decide) ?_
      refine x_istore X [(4, .int (0 : Int32)), (3, .int (0 : Int32)), (0, .ref (q 52)), (1, .int p0), (2, .int p1)] dX12_meant_24 (Nat.le_of_ble_eq_true rfl) rfl ?_
      refine x_lv [2, 3, 4, 1, 0] rfl ?_
      exact k_X12_meant_26 hω X R _ h _ _ _ _ hf
theorem mt_X12_meant : MT yX12_meant cX12_meant 5 (some .int) "SignalBlindModel" 2 := ⟨(mT_6 189 rfl rfl), (mT_6 190 rfl rfl), (mT_1 10 rfl rfl), (mT_6 191 rfl rfl), by decide⟩

abbrev rm_X12_layTurn : Room := { frames := 1, cells := 0, slots := 0, locals := 22 }
def f_X12_layTurn_60 (h : hp) : Option (hp × Int32) := (some (h, (0 : Int32)))
def f_X12_layTurn_12 : Nat → hp → Int32 → Int32 → Int32 → Option (hp × Int32)
  | 0, _, _, _, _ => none
  | n + 1, h, a2, a3, a4 => (if a4 < 0 then
 (some (h, (1 : Int32)))
 else
 (nz (5 : Int32)
 (chk a4 5
 (nm (tI h 69 (a4).toNatClampNeg (a2 - a2 / (5 : Int32) * (5 : Int32))) fun h8 =>
 (nz (5 : Int32)
 (nm (a2 / (5 : Int32)) fun v10 =>
 (chk a4 5
 (if (aI h8 69 (a4).toNatClampNeg) < (hI h8 52 1) then
 (chk a4 5
 (bnr (f_X12_has h8 a3 (aI h8 69 (a4).toNatClampNeg)) fun r14 =>
 (if r14 = 0 then
 (chk a4 5
 (nm (a3 ||| ((1 : Int32) <<< ((aI h8 69 (a4).toNatClampNeg) &&& 31))) fun v18 =>
 (nm (a4 + (-1 : Int32)) fun v19 =>
 ((f_X12_layTurn_12 n) h8 v10 v18 v19))))
 else
 (f_X12_layTurn_60 h8))))
 else
 (f_X12_layTurn_60 h8)))))))))
def f_X12_layTurn (h : hp) (p0 : Int32) : Option (hp × Int32) := (nm ((hI h 52 1) - (1 : Int32)) fun v1 =>
 (f_X12_layTurn_12 2000 h p0 (0 : Int32) v1))
set_option maxRecDepth 100000 in
set_option maxHeartbeats 4000000 in
theorem k_X12_layTurn_60 {ω : XO} (hω : ω.2.2.2.1 = 0) {κ : XK} (X : XC ω rm_X12_layTurn 5 κ cX12_layTurn "SignalBlindModel") {L : List Nat} {q : Nat → Nat} {h' : hp} {r : Int32} (R : XRet ω rm_X12_layTurn κ (some .boolean) L q h' (some (.int r))) : ∀ (h : hp), f_X12_layTurn_60 h = some (h', r) → XG ω rm_X12_layTurn 5 κ L q h 0 0 60 [] [] := by
  intro h hf
  unfold f_X12_layTurn_60 at hf
  refine x_iconst X (v := 0) dX12_layTurn_60 (by decide) ?_
  exact x_retSZ X R (by decide) hf dX12_layTurn_61
set_option maxRecDepth 100000 in
set_option maxHeartbeats 4000000 in
theorem k_X12_layTurn_12 {ω : XO} (hω : ω.2.2.2.1 = 0) {κ : XK} (X : XC ω rm_X12_layTurn 5 κ cX12_layTurn "SignalBlindModel") {L : List Nat} {q : Nat → Nat} {h' : hp} {r : Int32} (R : XRet ω rm_X12_layTurn κ (some .boolean) L q h' (some (.int r))) : ∀ (n : Nat) (h : hp) (a2 : Int32) (a3 : Int32) (a4 : Int32), f_X12_layTurn_12 n h a2 a3 a4 = some (h', r) → XG ω rm_X12_layTurn 5 κ L q h 0 0 12 [(0, .ref (q 52)), (2, .int a2), (3, .int a3), (4, .int a4)] [] := by
  intro n
  induction n with
  | zero =>
    intro h a2 a3 a4 hf
    have hf : (none : Option (hp × Int32)) = some (h', r) := hf
    cases hf
  | succ n ih =>
    intro h a2 a3 a4 hf
    rw [f_X12_layTurn_12] at hf
    refine x_iload X dX12_layTurn_12 3 rfl ?_
    refine x_if_lt X 80 dX12_layTurn_14 (by decide) (fun c5 => ?_) (fun c5 => ?_)
    · replace hf := (if_pos c5).symm.trans hf
      refine x_iconst X (v := 1) dX12_layTurn_80 (by decide) ?_
      exact x_retSZ X R (by decide) hf dX12_layTurn_81
    · replace hf := (if_neg c5).symm.trans hf
      refine x_aload_n X dX12_layTurn_17 0 rfl rfl ?_
      refine x_getsj X (i := 52) 17 fl_X12_93_13 (sdM_52 hω) (ks_52 _) rfl (j := 69) rfl dX12_layTurn_18 ?_
      refine x_iload X dX12_layTurn_21 3 rfl ?_
      refine x_iload_n X dX12_layTurn_23 1 rfl rfl ?_
      refine x_iconst X (v := 5) dX12_layTurn_24 (by decide) ?_
      obtain ⟨z6, hf⟩ := nz_some hf
      refine x_irem X dX12_layTurn_25 z6 ?_
      obtain ⟨z7, hf⟩ := chk_some hf
      refine x_iast X (i := 69) (n := 5) (sdM_69 hω) (ks_69 _) z7 dX12_layTurn_26 ?_
      obtain ⟨h8, eh8, hf⟩ := nm_some hf
      refine x_nmh eh8 ?_
      refine x_iload_n X dX12_layTurn_27 1 rfl rfl ?_
      refine x_iconst X (v := 5) dX12_layTurn_28 (by decide) ?_
      obtain ⟨z9, hf⟩ := nz_some hf
      refine x_idiv X dX12_layTurn_29 z9 ?_
      obtain ⟨v10, ev10, hf⟩ := nm_some hf
      refine x_nmI ev10 ?_
      refine x_istore_n X [(2, .int v10), (0, .ref (q 52)), (3, .int a3), (4, .int a4)] dX12_layTurn_30 rfl (Nat.le_of_ble_eq_true rfl) rfl ?_
      refine x_aload_n X dX12_layTurn_31 1 rfl rfl ?_
      refine x_getsj X (i := 52) 17 fl_X12_93_13 (sdM_52 hω) (ks_52 _) rfl (j := 69) rfl dX12_layTurn_32 ?_
      refine x_iload X dX12_layTurn_35 3 rfl ?_
      obtain ⟨z11, hf⟩ := chk_some hf
      refine x_iald X (i := 69) (n := 5) (sdM_69 hω) (ks_69 _) z11 dX12_layTurn_37 ?_
      refine x_aload_n X dX12_layTurn_38 1 rfl rfl ?_
      refine x_geti X (i := 52) fl_X12_13_13 (sdM_52 hω) (ks_52 _) rfl dX12_layTurn_39 ?_
      refine x_icmp_ge X 60 dX12_layTurn_42 (by decide) (fun c12 => ?_) (fun c12 => ?_)
      · replace hf := (if_pos c12).symm.trans hf
        refine x_aload_n X dX12_layTurn_45 1 rfl rfl ?_
        refine x_iload_n X dX12_layTurn_46 2 rfl rfl ?_
        refine x_aload_n X dX12_layTurn_47 1 rfl rfl ?_
        refine x_getsj X (i := 52) 17 fl_X12_93_13 (sdM_52 hω) (ks_52 _) rfl (j := 69) rfl dX12_layTurn_48 ?_
        refine x_iload X dX12_layTurn_51 3 rfl ?_
        obtain ⟨z13, hf⟩ := chk_some hf
        refine x_iald X (i := 69) (n := 5) (sdM_69 hω) (ks_69 _) z13 dX12_layTurn_53 ?_
        obtain ⟨r14, g15, hf⟩ := bnr_some hf
        refine c_X12_197 X hω g15 (hR := ⟨Nat.le_of_ble_eq_true rfl, Nat.le_of_ble_eq_true rfl⟩) ⟨Nat.zero_le _, Nat.zero_le _⟩ (Nat.le_of_ble_eq_true rfl) dX12_layTurn_54 ?_
        refine x_if_eq X 62 dX12_layTurn_57 (by decide) (fun c16 => ?_) (fun c16 => ?_)
        · replace hf := (if_pos c16).symm.trans hf
          refine x_iload_n X dX12_layTurn_62 2 rfl rfl ?_
          refine x_iconst X (v := 1) dX12_layTurn_63 (by decide) ?_
          refine x_aload_n X dX12_layTurn_64 1 rfl rfl ?_
          refine x_getsj X (i := 52) 17 fl_X12_93_13 (sdM_52 hω) (ks_52 _) rfl (j := 69) rfl dX12_layTurn_65 ?_
          refine x_iload X dX12_layTurn_68 3 rfl ?_
          obtain ⟨z17, hf⟩ := chk_some hf
          refine x_iald X (i := 69) (n := 5) (sdM_69 hω) (ks_69 _) z17 dX12_layTurn_70 ?_
          refine x_ishl X dX12_layTurn_71 ?_
          refine x_ior X dX12_layTurn_72 ?_
          obtain ⟨v18, ev18, hf⟩ := nm_some hf
          refine x_nmI ev18 ?_
          refine x_istore_n X [(3, .int v18), (2, .int v10), (0, .ref (q 52)), (4, .int a4)] dX12_layTurn_73 rfl (Nat.le_of_ble_eq_true rfl) rfl ?_
          obtain ⟨v19, ev19, hf⟩ := nm_some hf
          refine x_iincN X (v := -1) ev19 [(4, .int v19), (3, .int v18), (2, .int v10), (0, .ref (q 52))] dX12_layTurn_74 3 rfl (by decide) (Nat.le_of_ble_eq_true rfl) rfl ?_
          refine x_goto X 12 dX12_layTurn_77 (by decide) ?_
          refine x_lv [3, 2, 1, 0] rfl ?_
          exact ih h8 _ _ _ hf
        · replace hf := (if_neg c16).symm.trans hf
          refine x_lv [] rfl ?_
          exact k_X12_layTurn_60 hω X R h8 hf
      · replace hf := (if_neg c12).symm.trans hf
        refine x_lv [] rfl ?_
        exact k_X12_layTurn_60 hω X R h8 hf
set_option maxRecDepth 100000 in
set_option maxHeartbeats 4000000 in
theorem k_X12_layTurn {ω : XO} (hω : ω.2.2.2.1 = 0) {L : List Nat} {q : Nat → Nat} {h h' : hp} {p0 : Int32} {r : Int32} (hf : f_X12_layTurn h p0 = some (h', r)) : XM ω yX12_layTurn cX12_layTurn 5 (some .boolean) rm_X12_layTurn L q h [.ref (q 52), .int p0] (some (.int r)) h' := by
  refine XM_intro [(0, .ref (q 52)), (1, .int p0)] "SignalBlindModel" (by decide) rfl rfl (Nat.le_of_ble_eq_true rfl) (fun κ X R => ?_)
  unfold f_X12_layTurn at hf
  refine x_iload_n X dX12_layTurn_0 1 rfl rfl ?_
  refine x_istore_n X [(2, .int p0), (0, .ref (q 52)), (1, .int p0)] dX12_layTurn_1 rfl (Nat.le_of_ble_eq_true rfl) rfl ?_
  refine x_iconst X (v := 0) dX12_layTurn_2 (by decide) ?_
  refine x_istore_n X [(3, .int (0 : Int32)), (2, .int p0), (0, .ref (q 52)), (1, .int p0)] dX12_layTurn_3 rfl (Nat.le_of_ble_eq_true rfl) rfl ?_
  refine x_aload_n X dX12_layTurn_4 2 rfl rfl ?_
  refine x_geti X (i := 52) fl_X12_13_13 (sdM_52 hω) (ks_52 _) rfl dX12_layTurn_5 ?_
  refine x_iconst X (v := 1) dX12_layTurn_8 (by decide) ?_
  refine x_isub X dX12_layTurn_9 ?_
  obtain ⟨v1, ev1, hf⟩ := nm_some hf
  refine x_nmI ev1 ?_
  refine x_istore X [(4, .int v1), (3, .int (0 : Int32)), (2, .int p0), (0, .ref (q 52)), (1, .int p0)] dX12_layTurn_10 (Nat.le_of_ble_eq_true rfl) rfl ?_
  refine x_lv [3, 2, 1, 0] rfl ?_
  exact k_X12_layTurn_12 hω X R _ h _ _ _ hf
theorem mt_X12_layTurn : MT yX12_layTurn cX12_layTurn 5 (some .boolean) "SignalBlindModel" 1 := ⟨(mT_6 198 rfl rfl), (mTp (q := (yX12_layTurn, 61)) (by decide +kernel) rfl), (mT_1 10 rfl rfl), (mT_6 199 rfl rfl), by decide⟩
theorem c_X12_315 {ω : XO} {rm : Room} {nL : Nat} {κ : XK} {cc : ByteArray} (X : XC ω rm nL κ cc "SignalBlindModel") (hω : ω.2.2.2.1 = 0) {L : List Nat} {q : Nat → Nat} {h h' : hp} {cells slots pc : Nat} {lv : List (Nat × Value)} {rest : List Value} {p0 : Int32} {r : Int32} (hf : f_X12_layTurn h p0 = some (h', r)) (hR : rm_X12_layTurn.frames + 1 ≤ rm.frames ∧ 8 + (5 + 11) + rm_X12_layTurn.locals ≤ rm.locals) (hcs : cells ≤ rm.cells ∧ slots ≤ rm.slots) (hroom : (rest.map fun v => v.category).sum ≤ 8) (hd : decode cc pc = .ok (.invokevirtual 315, 3)) (kk : XG ω rm nL κ L q h' cells slots (pc + 3) lv (.int r :: rest)) : XG ω rm nL κ L q h cells slots pc lv (.int p0 :: .ref (q 52) :: rest) := x_callV X [.int p0] rest (k_X12_layTurn hω hf) mt_X12_layTurn (mT_6 196 rfl rfl) hR ⟨rfl, rfl⟩ hcs (sdM_52 hω) (ks_52 _) (by decide) rfl rfl hroom hd kk

abbrev rm_X12_passed : Room := { frames := 6, cells := 0, slots := 0, locals := 144 }
def f_X12_passed_18 (h : hp) : Option (hp × Int32) := (some (h, (-1 : Int32)))
def f_X12_passed_168 (k51 : hp → Int32 → Int32 → Int32 → Int32 → Int32 → Option (hp × Int32)) (h : hp) (a24 : Int32) (a25 : Int32) (a26 : Int32) (a27 : Int32) (a28 : Int32) : Option (hp × Int32) := (nm (a28 + (1 : Int32)) fun v29 =>
 (k51 h a24 a25 a26 a27 v29))
def f_X12_passed_142 (k51 : hp → Int32 → Int32 → Int32 → Int32 → Int32 → Option (hp × Int32)) : Nat → hp → Int32 → Int32 → Int32 → Int32 → Int32 → Int32 → Option (hp × Int32)
  | 0, _, _, _, _, _, _, _ => none
  | n + 1, h, a49, a50, a51, a52, a53, a54 => (if a54 < (5 : Int32) then
 (chk a54 5
 (chk a54 5
 (nm (tI h 70 (a54).toNatClampNeg (aI h 69 (a54).toNatClampNeg)) fun h58 =>
 (nm (a54 + (1 : Int32)) fun v59 =>
 ((f_X12_passed_142 k51 n) h58 a49 a50 a51 a52 a53 v59)))))
 else
 (f_X12_passed_168 k51 h a49 a50 a51 a52 a53))
def f_X12_passed_80 (k51 : hp → Int32 → Int32 → Int32 → Int32 → Int32 → Option (hp × Int32)) : Nat → hp → Int32 → Int32 → Int32 → Int32 → Int32 → Int32 → Int32 → Option (hp × Int32)
  | 0, _, _, _, _, _, _, _, _ => none
  | n + 1, h, a32, a33, a34, a35, a36, a37, a38 => (if a38 < (hI h 52 1) then
 (chk a38 5
 (bnd (f_X12_showsOf h (aI h 69 (a38).toNatClampNeg) a37) fun h41 r42 =>
 (nm (a38 + (1 : Int32)) fun v44 =>
 ((f_X12_passed_80 k51 n) h41 a32 a33 a34 a35 a36 r42 v44))))
 else
 (chk a32 8
 (bnr (f_X12_bits h (a37 ^^^ (aI h 53 (a32).toNatClampNeg))) fun r46 =>
 (if r46 < a35 then
 (f_X12_passed_142 k51 2000 h a32 a33 a34 r46 a36 (0 : Int32))
 else
 (f_X12_passed_168 k51 h a32 a33 a34 a35 a36)))))
def f_X12_passed_200 (h : hp) (a63 : Int32) : Option (hp × Int32) := (some (h, a63))
def f_X12_passed_51 : Nat → hp → Int32 → Int32 → Int32 → Int32 → Int32 → Option (hp × Int32)
  | 0, _, _, _, _, _, _ => none
  | n + 1, h, a14, a15, a16, a17, a18 => (if a18 < a16 then
 (bnd (f_X12_layTurn h a18) fun h20 r21 =>
 (if r21 = 0 then
 (f_X12_passed_168 (f_X12_passed_51 n) h20 a14 a15 a16 a17 a18)
 else
 (chk a14 8
 (nm (aI h20 53 (a14).toNatClampNeg) fun v31 =>
 (f_X12_passed_80 (f_X12_passed_51 n) 2000 h20 a14 a15 a16 a17 a18 v31 (0 : Int32))))))
 else
 (if a15 < 0 then
 (some (h, a17))
 else
 (if a15 < (hI h 52 1) then
 (chk a15 5
 (f_X12_passed_200 h (aI h 70 (a15).toNatClampNeg)))
 else
 (f_X12_passed_200 h (-5 : Int32)))))
def f_X12_passed_25 : Nat → hp → Int32 → Int32 → Int32 → Int32 → Option (hp × Int32)
  | 0, _, _, _, _, _ => none
  | n + 1, h, a7, a8, a9, a10 => (if a10 < (hI h 52 1) then
 (nm (a9 * (5 : Int32)) fun v12 =>
 (nm (a10 + (1 : Int32)) fun v13 =>
 ((f_X12_passed_25 n) h a7 a8 v12 v13)))
 else
 (f_X12_passed_51 4000 h a7 a8 a9 (99 : Int32) (0 : Int32)))
def f_X12_passed (h : hp) (p0 : Int32) (p1 : Int32) : Option (hp × Int32) := (bnr (f_X12_isWord h p0) fun r1 =>
 (if r1 = 0 then
 (f_X12_passed_18 h)
 else
 (bnr (f_X12_in h p1 (-1 : Int32) (4 : Int32)) fun r4 =>
 (if r4 = 0 then
 (f_X12_passed_18 h)
 else
 (f_X12_passed_25 2000 h p0 p1 (1 : Int32) (0 : Int32))))))
set_option maxRecDepth 100000 in
set_option maxHeartbeats 4000000 in
theorem k_X12_passed_18 {ω : XO} (hω : ω.2.2.2.1 = 0) {κ : XK} (X : XC ω rm_X12_passed 9 κ cX12_passed "SignalBlindModel") {L : List Nat} {q : Nat → Nat} {h' : hp} {r : Int32} (R : XRet ω rm_X12_passed κ (some .int) L q h' (some (.int r))) : ∀ (h : hp), f_X12_passed_18 h = some (h', r) → XG ω rm_X12_passed 9 κ L q h 0 0 18 [] [] := by
  intro h hf
  unfold f_X12_passed_18 at hf
  refine x_iconst X (v := -1) dX12_passed_18 (by decide) ?_
  exact x_retSI X R hf dX12_passed_19
set_option maxRecDepth 100000 in
set_option maxHeartbeats 4000000 in
theorem k_X12_passed_168 {ω : XO} (hω : ω.2.2.2.1 = 0) {κ : XK} (X : XC ω rm_X12_passed 9 κ cX12_passed "SignalBlindModel") {L : List Nat} {q : Nat → Nat} {h' : hp} {r : Int32} (R : XRet ω rm_X12_passed κ (some .int) L q h' (some (.int r))) (k51 : hp → Int32 → Int32 → Int32 → Int32 → Int32 → Option (hp × Int32)) (hk51 : ∀ (h : hp) (a14 : Int32) (a15 : Int32) (a16 : Int32) (a17 : Int32) (a18 : Int32), k51 h a14 a15 a16 a17 a18 = some (h', r) → XG ω rm_X12_passed 9 κ L q h 0 0 51 [(0, .ref (q 52)), (1, .int a14), (2, .int a15), (3, .int a16), (4, .int a17), (5, .int a18)] []) : ∀ (h : hp) (a24 : Int32) (a25 : Int32) (a26 : Int32) (a27 : Int32) (a28 : Int32), f_X12_passed_168 k51 h a24 a25 a26 a27 a28 = some (h', r) → XG ω rm_X12_passed 9 κ L q h 0 0 168 [(0, .ref (q 52)), (1, .int a24), (2, .int a25), (3, .int a26), (4, .int a27), (5, .int a28)] [] := by
  intro h a24 a25 a26 a27 a28 hf
  unfold f_X12_passed_168 at hf
  obtain ⟨v29, ev29, hf⟩ := nm_some hf
  refine x_iincN X (v := 1) ev29 [(5, .int v29), (0, .ref (q 52)), (1, .int a24), (2, .int a25), (3, .int a26), (4, .int a27)] dX12_passed_168 5 rfl (by decide) (Nat.le_of_ble_eq_true rfl) rfl ?_
  refine x_goto X 51 dX12_passed_171 (by decide) ?_
  refine x_lv [1, 2, 3, 4, 5, 0] rfl ?_
  exact hk51 h _ _ _ _ _ hf
set_option maxRecDepth 100000 in
set_option maxHeartbeats 4000000 in
theorem k_X12_passed_142 {ω : XO} (hω : ω.2.2.2.1 = 0) {κ : XK} (X : XC ω rm_X12_passed 9 κ cX12_passed "SignalBlindModel") {L : List Nat} {q : Nat → Nat} {h' : hp} {r : Int32} (R : XRet ω rm_X12_passed κ (some .int) L q h' (some (.int r))) (k51 : hp → Int32 → Int32 → Int32 → Int32 → Int32 → Option (hp × Int32)) (hk51 : ∀ (h : hp) (a14 : Int32) (a15 : Int32) (a16 : Int32) (a17 : Int32) (a18 : Int32), k51 h a14 a15 a16 a17 a18 = some (h', r) → XG ω rm_X12_passed 9 κ L q h 0 0 51 [(0, .ref (q 52)), (1, .int a14), (2, .int a15), (3, .int a16), (4, .int a17), (5, .int a18)] []) : ∀ (n : Nat) (h : hp) (a49 : Int32) (a50 : Int32) (a51 : Int32) (a52 : Int32) (a53 : Int32) (a54 : Int32), f_X12_passed_142 k51 n h a49 a50 a51 a52 a53 a54 = some (h', r) → XG ω rm_X12_passed 9 κ L q h 0 0 142 [(0, .ref (q 52)), (1, .int a49), (2, .int a50), (3, .int a51), (4, .int a52), (5, .int a53), (8, .int a54)] [] := by
  intro n
  induction n with
  | zero =>
    intro h a49 a50 a51 a52 a53 a54 hf
    have hf : (none : Option (hp × Int32)) = some (h', r) := hf
    cases hf
  | succ n ih =>
    intro h a49 a50 a51 a52 a53 a54 hf
    rw [f_X12_passed_142] at hf
    refine x_iload X dX12_passed_142 6 rfl ?_
    refine x_iconst X (v := 5) dX12_passed_144 (by decide) ?_
    refine x_icmp_ge X 168 dX12_passed_145 (by decide) (fun c55 => ?_) (fun c55 => ?_)
    · replace hf := (if_pos c55).symm.trans hf
      refine x_aload_n X dX12_passed_148 0 rfl rfl ?_
      refine x_getsj X (i := 52) 18 fl_X12_96_13 (sdM_52 hω) (ks_52 _) rfl (j := 70) rfl dX12_passed_149 ?_
      refine x_iload X dX12_passed_152 6 rfl ?_
      refine x_aload_n X dX12_passed_154 0 rfl rfl ?_
      refine x_getsj X (i := 52) 17 fl_X12_93_13 (sdM_52 hω) (ks_52 _) rfl (j := 69) rfl dX12_passed_155 ?_
      refine x_iload X dX12_passed_158 6 rfl ?_
      obtain ⟨z56, hf⟩ := chk_some hf
      refine x_iald X (i := 69) (n := 5) (sdM_69 hω) (ks_69 _) z56 dX12_passed_160 ?_
      obtain ⟨z57, hf⟩ := chk_some hf
      refine x_iast X (i := 70) (n := 5) (sdM_70 hω) (ks_70 _) z57 dX12_passed_161 ?_
      obtain ⟨h58, eh58, hf⟩ := nm_some hf
      refine x_nmh eh58 ?_
      obtain ⟨v59, ev59, hf⟩ := nm_some hf
      refine x_iincN X (v := 1) ev59 [(8, .int v59), (0, .ref (q 52)), (1, .int a49), (2, .int a50), (3, .int a51), (4, .int a52), (5, .int a53)] dX12_passed_162 6 rfl (by decide) (Nat.le_of_ble_eq_true rfl) rfl ?_
      refine x_goto X 142 dX12_passed_165 (by decide) ?_
      refine x_lv [1, 2, 3, 4, 5, 6, 0] rfl ?_
      exact ih h58 _ _ _ _ _ _ hf
    · replace hf := (if_neg c55).symm.trans hf
      refine x_lv [0, 1, 2, 3, 4, 5] rfl ?_
      exact k_X12_passed_168 hω X R _ hk51 h _ _ _ _ _ hf
set_option maxRecDepth 100000 in
set_option maxHeartbeats 4000000 in
theorem k_X12_passed_80 {ω : XO} (hω : ω.2.2.2.1 = 0) {κ : XK} (X : XC ω rm_X12_passed 9 κ cX12_passed "SignalBlindModel") {L : List Nat} {q : Nat → Nat} {h' : hp} {r : Int32} (R : XRet ω rm_X12_passed κ (some .int) L q h' (some (.int r))) (k51 : hp → Int32 → Int32 → Int32 → Int32 → Int32 → Option (hp × Int32)) (hk51 : ∀ (h : hp) (a14 : Int32) (a15 : Int32) (a16 : Int32) (a17 : Int32) (a18 : Int32), k51 h a14 a15 a16 a17 a18 = some (h', r) → XG ω rm_X12_passed 9 κ L q h 0 0 51 [(0, .ref (q 52)), (1, .int a14), (2, .int a15), (3, .int a16), (4, .int a17), (5, .int a18)] []) : ∀ (n : Nat) (h : hp) (a32 : Int32) (a33 : Int32) (a34 : Int32) (a35 : Int32) (a36 : Int32) (a37 : Int32) (a38 : Int32), f_X12_passed_80 k51 n h a32 a33 a34 a35 a36 a37 a38 = some (h', r) → XG ω rm_X12_passed 9 κ L q h 0 0 80 [(0, .ref (q 52)), (1, .int a32), (2, .int a33), (3, .int a34), (4, .int a35), (5, .int a36), (6, .int a37), (7, .int a38)] [] := by
  intro n
  induction n with
  | zero =>
    intro h a32 a33 a34 a35 a36 a37 a38 hf
    have hf : (none : Option (hp × Int32)) = some (h', r) := hf
    cases hf
  | succ n ih =>
    intro h a32 a33 a34 a35 a36 a37 a38 hf
    rw [f_X12_passed_80] at hf
    refine x_iload X dX12_passed_80 7 rfl ?_
    refine x_aload_n X dX12_passed_82 0 rfl rfl ?_
    refine x_geti X (i := 52) fl_X12_13_13 (sdM_52 hω) (ks_52 _) rfl dX12_passed_83 ?_
    refine x_icmp_ge X 110 dX12_passed_86 (by decide) (fun c39 => ?_) (fun c39 => ?_)
    · replace hf := (if_pos c39).symm.trans hf
      refine x_aload_n X dX12_passed_89 0 rfl rfl ?_
      refine x_aload_n X dX12_passed_90 0 rfl rfl ?_
      refine x_getsj X (i := 52) 17 fl_X12_93_13 (sdM_52 hω) (ks_52 _) rfl (j := 69) rfl dX12_passed_91 ?_
      refine x_iload X dX12_passed_94 7 rfl ?_
      obtain ⟨z40, hf⟩ := chk_some hf
      refine x_iald X (i := 69) (n := 5) (sdM_69 hω) (ks_69 _) z40 dX12_passed_96 ?_
      refine x_iload X dX12_passed_97 6 rfl ?_
      obtain ⟨h41, r42, g43, hf⟩ := bnd_some hf
      refine c_X12_290 X hω g43 (hR := ⟨Nat.le_of_ble_eq_true rfl, Nat.le_of_ble_eq_true rfl⟩) ⟨Nat.zero_le _, Nat.zero_le _⟩ (Nat.le_of_ble_eq_true rfl) dX12_passed_99 ?_
      refine x_istore X [(6, .int r42), (0, .ref (q 52)), (1, .int a32), (2, .int a33), (3, .int a34), (4, .int a35), (5, .int a36), (7, .int a38)] dX12_passed_102 (Nat.le_of_ble_eq_true rfl) rfl ?_
      obtain ⟨v44, ev44, hf⟩ := nm_some hf
      refine x_iincN X (v := 1) ev44 [(7, .int v44), (6, .int r42), (0, .ref (q 52)), (1, .int a32), (2, .int a33), (3, .int a34), (4, .int a35), (5, .int a36)] dX12_passed_104 7 rfl (by decide) (Nat.le_of_ble_eq_true rfl) rfl ?_
      refine x_goto X 80 dX12_passed_107 (by decide) ?_
      refine x_lv [2, 3, 4, 5, 6, 7, 1, 0] rfl ?_
      exact ih h41 _ _ _ _ _ _ _ hf
    · replace hf := (if_neg c39).symm.trans hf
      refine x_aload_n X dX12_passed_110 0 rfl rfl ?_
      refine x_iload X dX12_passed_111 6 rfl ?_
      refine x_aload_n X dX12_passed_113 0 rfl rfl ?_
      refine x_getsj X (i := 52) 1 fl_X12_19_13 (sdM_52 hω) (ks_52 _) rfl (j := 53) rfl dX12_passed_114 ?_
      refine x_iload_n X dX12_passed_117 1 rfl rfl ?_
      obtain ⟨z45, hf⟩ := chk_some hf
      refine x_iald X (i := 53) (n := 8) (sdM_53 hω) (ks_53 _) z45 dX12_passed_118 ?_
      refine x_ixor X dX12_passed_119 ?_
      obtain ⟨r46, g47, hf⟩ := bnr_some hf
      refine c_X12_267 X hω g47 (hR := ⟨Nat.le_of_ble_eq_true rfl, Nat.le_of_ble_eq_true rfl⟩) ⟨Nat.zero_le _, Nat.zero_le _⟩ (Nat.le_of_ble_eq_true rfl) dX12_passed_120 ?_
      refine x_istore X [(7, .int r46), (0, .ref (q 52)), (1, .int a32), (2, .int a33), (3, .int a34), (4, .int a35), (5, .int a36), (6, .int a37)] dX12_passed_123 (Nat.le_of_ble_eq_true rfl) rfl ?_
      refine x_iload X dX12_passed_125 0 rfl ?_
      refine x_iload X dX12_passed_127 5 rfl ?_
      refine x_icmp_lt X 135 dX12_passed_129 (by decide) (fun c48 => ?_) (fun c48 => ?_)
      · replace hf := (if_pos c48).symm.trans hf
        refine x_iload X dX12_passed_135 0 rfl ?_
        refine x_istore X [(4, .int r46), (7, .int r46), (0, .ref (q 52)), (1, .int a32), (2, .int a33), (3, .int a34), (5, .int a36), (6, .int a37)] dX12_passed_137 (Nat.le_of_ble_eq_true rfl) rfl ?_
        refine x_iconst X (v := 0) dX12_passed_139 (by decide) ?_
        refine x_istore X [(8, .int (0 : Int32)), (4, .int r46), (7, .int r46), (0, .ref (q 52)), (1, .int a32), (2, .int a33), (3, .int a34), (5, .int a36), (6, .int a37)] dX12_passed_140 (Nat.le_of_ble_eq_true rfl) rfl ?_
        refine x_lv [3, 4, 5, 6, 1, 7, 0] rfl ?_
        exact k_X12_passed_142 hω X R _ hk51 _ h _ _ _ _ _ _ hf
      · replace hf := (if_neg c48).symm.trans hf
        refine x_goto X 168 dX12_passed_132 (by decide) ?_
        refine x_lv [1, 2, 3, 4, 5, 6] rfl ?_
        exact k_X12_passed_168 hω X R _ hk51 h _ _ _ _ _ hf
set_option maxRecDepth 100000 in
set_option maxHeartbeats 4000000 in
theorem k_X12_passed_200 {ω : XO} (hω : ω.2.2.2.1 = 0) {κ : XK} (X : XC ω rm_X12_passed 9 κ cX12_passed "SignalBlindModel") {L : List Nat} {q : Nat → Nat} {h' : hp} {r : Int32} (R : XRet ω rm_X12_passed κ (some .int) L q h' (some (.int r))) : ∀ (h : hp) (a63 : Int32), f_X12_passed_200 h a63 = some (h', r) → XG ω rm_X12_passed 9 κ L q h 0 0 200 [] [.int a63] := by
  intro h a63 hf
  unfold f_X12_passed_200 at hf
  exact x_retSI X R hf dX12_passed_200
set_option maxRecDepth 100000 in
set_option maxHeartbeats 4000000 in
theorem k_X12_passed_51 {ω : XO} (hω : ω.2.2.2.1 = 0) {κ : XK} (X : XC ω rm_X12_passed 9 κ cX12_passed "SignalBlindModel") {L : List Nat} {q : Nat → Nat} {h' : hp} {r : Int32} (R : XRet ω rm_X12_passed κ (some .int) L q h' (some (.int r))) : ∀ (n : Nat) (h : hp) (a14 : Int32) (a15 : Int32) (a16 : Int32) (a17 : Int32) (a18 : Int32), f_X12_passed_51 n h a14 a15 a16 a17 a18 = some (h', r) → XG ω rm_X12_passed 9 κ L q h 0 0 51 [(0, .ref (q 52)), (1, .int a14), (2, .int a15), (3, .int a16), (4, .int a17), (5, .int a18)] [] := by
  intro n
  induction n with
  | zero =>
    intro h a14 a15 a16 a17 a18 hf
    have hf : (none : Option (hp × Int32)) = some (h', r) := hf
    cases hf
  | succ n ih =>
    intro h a14 a15 a16 a17 a18 hf
    rw [f_X12_passed_51] at hf
    refine x_iload X dX12_passed_51 5 rfl ?_
    refine x_iload_n X dX12_passed_53 3 rfl rfl ?_
    refine x_icmp_ge X 174 dX12_passed_54 (by decide) (fun c19 => ?_) (fun c19 => ?_)
    · replace hf := (if_pos c19).symm.trans hf
      refine x_aload_n X dX12_passed_57 0 rfl rfl ?_
      refine x_iload X dX12_passed_58 5 rfl ?_
      obtain ⟨h20, r21, g22, hf⟩ := bnd_some hf
      refine c_X12_315 X hω g22 (hR := ⟨Nat.le_of_ble_eq_true rfl, Nat.le_of_ble_eq_true rfl⟩) ⟨Nat.zero_le _, Nat.zero_le _⟩ (Nat.le_of_ble_eq_true rfl) dX12_passed_60 ?_
      refine x_if_ne X 69 dX12_passed_63 (by decide) (fun c23 => ?_) (fun c23 => ?_)
      · replace hf := (if_pos c23).symm.trans hf
        refine x_goto X 168 dX12_passed_66 (by decide) ?_
        refine x_lv [0, 1, 2, 3, 4, 5] rfl ?_
        exact k_X12_passed_168 hω X R _ ih h20 _ _ _ _ _ hf
      · replace hf := (if_neg c23).symm.trans hf
        refine x_aload_n X dX12_passed_69 0 rfl rfl ?_
        refine x_getsj X (i := 52) 1 fl_X12_19_13 (sdM_52 hω) (ks_52 _) rfl (j := 53) rfl dX12_passed_70 ?_
        refine x_iload_n X dX12_passed_73 1 rfl rfl ?_
        obtain ⟨z30, hf⟩ := chk_some hf
        refine x_iald X (i := 53) (n := 8) (sdM_53 hω) (ks_53 _) z30 dX12_passed_74 ?_
        obtain ⟨v31, ev31, hf⟩ := nm_some hf
        refine x_nmI ev31 ?_
        refine x_istore X [(6, .int v31), (0, .ref (q 52)), (1, .int a14), (2, .int a15), (3, .int a16), (4, .int a17), (5, .int a18)] dX12_passed_75 (Nat.le_of_ble_eq_true rfl) rfl ?_
        refine x_iconst X (v := 0) dX12_passed_77 (by decide) ?_
        refine x_istore X [(7, .int (0 : Int32)), (6, .int v31), (0, .ref (q 52)), (1, .int a14), (2, .int a15), (3, .int a16), (4, .int a17), (5, .int a18)] dX12_passed_78 (Nat.le_of_ble_eq_true rfl) rfl ?_
        refine x_lv [2, 3, 4, 5, 6, 7, 1, 0] rfl ?_
        exact k_X12_passed_80 hω X R _ ih _ h20 _ _ _ _ _ _ _ hf
    · replace hf := (if_neg c19).symm.trans hf
      refine x_iload_n X dX12_passed_174 2 rfl rfl ?_
      refine x_if_ge X 181 dX12_passed_175 (by decide) (fun c60 => ?_) (fun c60 => ?_)
      · replace hf := (if_pos c60).symm.trans hf
        refine x_iload X dX12_passed_178 4 rfl ?_
        exact x_retSI X R hf dX12_passed_180
      · replace hf := (if_neg c60).symm.trans hf
        refine x_iload_n X dX12_passed_181 2 rfl rfl ?_
        refine x_aload_n X dX12_passed_182 0 rfl rfl ?_
        refine x_geti X (i := 52) fl_X12_13_13 (sdM_52 hω) (ks_52 _) rfl dX12_passed_183 ?_
        refine x_icmp_ge X 198 dX12_passed_186 (by decide) (fun c61 => ?_) (fun c61 => ?_)
        · replace hf := (if_pos c61).symm.trans hf
          refine x_aload_n X dX12_passed_189 0 rfl rfl ?_
          refine x_getsj X (i := 52) 18 fl_X12_96_13 (sdM_52 hω) (ks_52 _) rfl (j := 70) rfl dX12_passed_190 ?_
          refine x_iload_n X dX12_passed_193 2 rfl rfl ?_
          obtain ⟨z62, hf⟩ := chk_some hf
          refine x_iald X (i := 70) (n := 5) (sdM_70 hω) (ks_70 _) z62 dX12_passed_194 ?_
          refine x_goto X 200 dX12_passed_195 (by decide) ?_
          refine x_lv [] rfl ?_
          exact k_X12_passed_200 hω X R h _ hf
        · replace hf := (if_neg c61).symm.trans hf
          refine x_bipush X (v := -5) dX12_passed_198 (by decide) ?_
          refine x_lv [] rfl ?_
          exact k_X12_passed_200 hω X R h _ hf
set_option maxRecDepth 100000 in
set_option maxHeartbeats 4000000 in
theorem k_X12_passed_25 {ω : XO} (hω : ω.2.2.2.1 = 0) {κ : XK} (X : XC ω rm_X12_passed 9 κ cX12_passed "SignalBlindModel") {L : List Nat} {q : Nat → Nat} {h' : hp} {r : Int32} (R : XRet ω rm_X12_passed κ (some .int) L q h' (some (.int r))) : ∀ (n : Nat) (h : hp) (a7 : Int32) (a8 : Int32) (a9 : Int32) (a10 : Int32), f_X12_passed_25 n h a7 a8 a9 a10 = some (h', r) → XG ω rm_X12_passed 9 κ L q h 0 0 25 [(0, .ref (q 52)), (1, .int a7), (2, .int a8), (3, .int a9), (4, .int a10)] [] := by
  intro n
  induction n with
  | zero =>
    intro h a7 a8 a9 a10 hf
    have hf : (none : Option (hp × Int32)) = some (h', r) := hf
    cases hf
  | succ n ih =>
    intro h a7 a8 a9 a10 hf
    rw [f_X12_passed_25] at hf
    refine x_iload X dX12_passed_25 4 rfl ?_
    refine x_aload_n X dX12_passed_27 0 rfl rfl ?_
    refine x_geti X (i := 52) fl_X12_13_13 (sdM_52 hω) (ks_52 _) rfl dX12_passed_28 ?_
    refine x_icmp_ge X 44 dX12_passed_31 (by decide) (fun c11 => ?_) (fun c11 => ?_)
    · replace hf := (if_pos c11).symm.trans hf
      refine x_iload_n X dX12_passed_34 3 rfl rfl ?_
      refine x_iconst X (v := 5) dX12_passed_35 (by decide) ?_
      refine x_imul X dX12_passed_36 ?_
      obtain ⟨v12, ev12, hf⟩ := nm_some hf
      refine x_nmI ev12 ?_
      refine x_istore_n X [(3, .int v12), (0, .ref (q 52)), (1, .int a7), (2, .int a8), (4, .int a10)] dX12_passed_37 rfl (Nat.le_of_ble_eq_true rfl) rfl ?_
      obtain ⟨v13, ev13, hf⟩ := nm_some hf
      refine x_iincN X (v := 1) ev13 [(4, .int v13), (3, .int v12), (0, .ref (q 52)), (1, .int a7), (2, .int a8)] dX12_passed_38 4 rfl (by decide) (Nat.le_of_ble_eq_true rfl) rfl ?_
      refine x_goto X 25 dX12_passed_41 (by decide) ?_
      refine x_lv [2, 3, 4, 1, 0] rfl ?_
      exact ih h _ _ _ _ hf
    · replace hf := (if_neg c11).symm.trans hf
      refine x_bipush X (v := 99) dX12_passed_44 (by decide) ?_
      refine x_istore X [(4, .int (99 : Int32)), (0, .ref (q 52)), (1, .int a7), (2, .int a8), (3, .int a9)] dX12_passed_46 (Nat.le_of_ble_eq_true rfl) rfl ?_
      refine x_iconst X (v := 0) dX12_passed_48 (by decide) ?_
      refine x_istore X [(5, .int (0 : Int32)), (4, .int (99 : Int32)), (0, .ref (q 52)), (1, .int a7), (2, .int a8), (3, .int a9)] dX12_passed_49 (Nat.le_of_ble_eq_true rfl) rfl ?_
      refine x_lv [2, 3, 4, 5, 1, 0] rfl ?_
      exact k_X12_passed_51 hω X R _ h _ _ _ _ _ hf
set_option maxRecDepth 100000 in
set_option maxHeartbeats 4000000 in
theorem k_X12_passed {ω : XO} (hω : ω.2.2.2.1 = 0) {L : List Nat} {q : Nat → Nat} {h h' : hp} {p0 : Int32} {p1 : Int32} {r : Int32} (hf : f_X12_passed h p0 p1 = some (h', r)) : XM ω yX12_passed cX12_passed 9 (some .int) rm_X12_passed L q h [.ref (q 52), .int p0, .int p1] (some (.int r)) h' := by
  refine XM_intro [(0, .ref (q 52)), (1, .int p0), (2, .int p1)] "SignalBlindModel" (by decide) rfl rfl (Nat.le_of_ble_eq_true rfl) (fun κ X R => ?_)
  unfold f_X12_passed at hf
  refine x_aload_n X dX12_passed_0 0 rfl rfl ?_
  refine x_iload_n X dX12_passed_1 1 rfl rfl ?_
  obtain ⟨r1, g2, hf⟩ := bnr_some hf
  refine c_X12_209 X hω g2 (hR := ⟨Nat.le_of_ble_eq_true rfl, Nat.le_of_ble_eq_true rfl⟩) ⟨Nat.zero_le _, Nat.zero_le _⟩ (Nat.le_of_ble_eq_true rfl) dX12_passed_2 ?_
  refine x_if_eq X 18 dX12_passed_5 (by decide) (fun c3 => ?_) (fun c3 => ?_)
  · replace hf := (if_pos c3).symm.trans hf
    refine x_lv [] rfl ?_
    exact k_X12_passed_18 hω X R h hf
  · replace hf := (if_neg c3).symm.trans hf
    refine x_aload_n X dX12_passed_8 0 rfl rfl ?_
    refine x_iload_n X dX12_passed_9 2 rfl rfl ?_
    refine x_iconst X (v := -1) dX12_passed_10 (by decide) ?_
    refine x_iconst X (v := 4) dX12_passed_11 (by decide) ?_
    obtain ⟨r4, g5, hf⟩ := bnr_some hf
    refine c_X12_201 X hω g5 (hR := ⟨Nat.le_of_ble_eq_true rfl, Nat.le_of_ble_eq_true rfl⟩) ⟨Nat.zero_le _, Nat.zero_le _⟩ (Nat.le_of_ble_eq_true rfl) dX12_passed_12 ?_
    refine x_if_ne X 20 dX12_passed_15 (by decide) (fun c6 => ?_) (fun c6 => ?_)
    · replace hf := (if_pos c6).symm.trans hf
      refine x_lv [] rfl ?_
      exact k_X12_passed_18 hω X R h hf
    · replace hf := (if_neg c6).symm.trans hf
      refine x_iconst X (v := 1) dX12_passed_20 (by decide) ?_
      refine x_istore_n X [(3, .int (1 : Int32)), (0, .ref (q 52)), (1, .int p0), (2, .int p1)] dX12_passed_21 rfl (Nat.le_of_ble_eq_true rfl) rfl ?_
      refine x_iconst X (v := 0) dX12_passed_22 (by decide) ?_
      refine x_istore X [(4, .int (0 : Int32)), (3, .int (1 : Int32)), (0, .ref (q 52)), (1, .int p0), (2, .int p1)] dX12_passed_23 (Nat.le_of_ble_eq_true rfl) rfl ?_
      refine x_lv [2, 3, 4, 1, 0] rfl ?_
      exact k_X12_passed_25 hω X R _ h _ _ _ _ hf
theorem mt_X12_passed : MT yX12_passed cX12_passed 9 (some .int) "SignalBlindModel" 2 := ⟨(mT_6 193 rfl rfl), (mT_6 194 rfl rfl), (mT_1 10 rfl rfl), (mT_6 195 rfl rfl), by decide⟩
