abbrev rm_X12_see : Room := { frames := 2, cells := 0, slots := 0, locals := 44 }
def f_X12_see (h : hp) (p0 : Int32) (p1 : Int32) : Option (hp × Int32) := (if p0 = (-1 : Int32) then
 (nm (sI h 52 29 (0 : Int32)) fun h2 =>
 (some (h2, (0 : Int32))))
 else
 (bnr (f_X12_isWord h p0) fun r3 =>
 (if r3 = 0 then
 (some (h, (-1 : Int32)))
 else
 (bnr (f_X12_isSign h p1) fun r6 =>
 (if r6 = 0 then
 (some (h, (-2 : Int32)))
 else
 (if (hI h 52 29) = (5 : Int32) then
 (some (h, (-4 : Int32)))
 else
 (chk (hI h 52 29) 5
 (nm (tI h 71 ((hI h 52 29)).toNatClampNeg p0) fun h11 =>
 (chk (hI h11 52 29) 5
 (nm (tI h11 72 ((hI h11 52 29)).toNatClampNeg p1) fun h13 =>
 (nm (sI h13 52 29 ((hI h13 52 29) + (1 : Int32))) fun h14 =>
 (some (h14, (hI h14 52 29))))))))))))))
set_option maxRecDepth 100000 in
set_option maxHeartbeats 4000000 in
theorem k_X12_see {ω : XO} (hω : ω.2.2.2.1 = 0) {L : List Nat} {q : Nat → Nat} {h h' : hp} {p0 : Int32} {p1 : Int32} {r : Int32} (hf : f_X12_see h p0 p1 = some (h', r)) : XM ω yX12_see cX12_see 3 (some .int) rm_X12_see L q h [.ref (q 52), .int p0, .int p1] (some (.int r)) h' := by
  refine XM_intro [(0, .ref (q 52)), (1, .int p0), (2, .int p1)] "SignalBlindModel" (by decide) rfl rfl (Nat.le_of_ble_eq_true rfl) (fun κ X R => ?_)
  unfold f_X12_see at hf
  refine x_iload_n X dX12_see_0 1 rfl rfl ?_
  refine x_iconst X (v := -1) dX12_see_1 (by decide) ?_
  refine x_icmp_ne X 12 dX12_see_2 (by decide) (fun c1 => ?_) (fun c1 => ?_)
  · replace hf := (if_pos c1).symm.trans hf
    refine x_aload_n X dX12_see_5 0 rfl rfl ?_
    refine x_iconst X (v := 0) dX12_see_6 (by decide) ?_
    refine x_puti X (i := 52) fl_X12_99_13 fw_13 (sdM_52 hω) (ks_52 _) rfl rfl rfl rfl dX12_see_7 ?_
    obtain ⟨h2, eh2, hf⟩ := nm_some hf
    refine x_nmh eh2 ?_
    refine x_iconst X (v := 0) dX12_see_10 (by decide) ?_
    exact x_retSI X R hf dX12_see_11
  · replace hf := (if_neg c1).symm.trans hf
    refine x_aload_n X dX12_see_12 0 rfl rfl ?_
    refine x_iload_n X dX12_see_13 1 rfl rfl ?_
    obtain ⟨r3, g4, hf⟩ := bnr_some hf
    refine c_X12_209 X hω g4 (hR := ⟨Nat.le_of_ble_eq_true rfl, Nat.le_of_ble_eq_true rfl⟩) ⟨Nat.zero_le _, Nat.zero_le _⟩ (Nat.le_of_ble_eq_true rfl) dX12_see_14 ?_
    refine x_if_ne X 22 dX12_see_17 (by decide) (fun c5 => ?_) (fun c5 => ?_)
    · replace hf := (if_pos c5).symm.trans hf
      refine x_iconst X (v := -1) dX12_see_20 (by decide) ?_
      exact x_retSI X R hf dX12_see_21
    · replace hf := (if_neg c5).symm.trans hf
      refine x_aload_n X dX12_see_22 0 rfl rfl ?_
      refine x_iload_n X dX12_see_23 2 rfl rfl ?_
      obtain ⟨r6, g7, hf⟩ := bnr_some hf
      refine c_X12_205 X hω g7 (hR := ⟨Nat.le_of_ble_eq_true rfl, Nat.le_of_ble_eq_true rfl⟩) ⟨Nat.zero_le _, Nat.zero_le _⟩ (Nat.le_of_ble_eq_true rfl) dX12_see_24 ?_
      refine x_if_ne X 33 dX12_see_27 (by decide) (fun c8 => ?_) (fun c8 => ?_)
      · replace hf := (if_pos c8).symm.trans hf
        refine x_bipush X (v := -2) dX12_see_30 (by decide) ?_
        exact x_retSI X R hf dX12_see_32
      · replace hf := (if_neg c8).symm.trans hf
        refine x_aload_n X dX12_see_33 0 rfl rfl ?_
        refine x_geti X (i := 52) fl_X12_99_13 (sdM_52 hω) (ks_52 _) rfl dX12_see_34 ?_
        refine x_iconst X (v := 5) dX12_see_37 (by decide) ?_
        refine x_icmp_ne X 44 dX12_see_38 (by decide) (fun c9 => ?_) (fun c9 => ?_)
        · replace hf := (if_pos c9).symm.trans hf
          refine x_bipush X (v := -4) dX12_see_41 (by decide) ?_
          exact x_retSI X R hf dX12_see_43
        · replace hf := (if_neg c9).symm.trans hf
          refine x_aload_n X dX12_see_44 0 rfl rfl ?_
          refine x_getsj X (i := 52) 19 fl_X12_102_13 (sdM_52 hω) (ks_52 _) rfl (j := 71) rfl dX12_see_45 ?_
          refine x_aload_n X dX12_see_48 0 rfl rfl ?_
          refine x_geti X (i := 52) fl_X12_99_13 (sdM_52 hω) (ks_52 _) rfl dX12_see_49 ?_
          refine x_iload_n X dX12_see_52 1 rfl rfl ?_
          obtain ⟨z10, hf⟩ := chk_some hf
          refine x_iast X (i := 71) (n := 5) (sdM_71 hω) (ks_71 _) z10 dX12_see_53 ?_
          obtain ⟨h11, eh11, hf⟩ := nm_some hf
          refine x_nmh eh11 ?_
          refine x_aload_n X dX12_see_54 0 rfl rfl ?_
          refine x_getsj X (i := 52) 20 fl_X12_105_13 (sdM_52 hω) (ks_52 _) rfl (j := 72) rfl dX12_see_55 ?_
          refine x_aload_n X dX12_see_58 0 rfl rfl ?_
          refine x_geti X (i := 52) fl_X12_99_13 (sdM_52 hω) (ks_52 _) rfl dX12_see_59 ?_
          refine x_iload_n X dX12_see_62 2 rfl rfl ?_
          obtain ⟨z12, hf⟩ := chk_some hf
          refine x_iast X (i := 72) (n := 5) (sdM_72 hω) (ks_72 _) z12 dX12_see_63 ?_
          obtain ⟨h13, eh13, hf⟩ := nm_some hf
          refine x_nmh eh13 ?_
          refine x_aload_n X dX12_see_64 0 rfl rfl ?_
          refine x_dup X dX12_see_65 rfl ?_
          refine x_geti X (i := 52) fl_X12_99_13 (sdM_52 hω) (ks_52 _) rfl dX12_see_66 ?_
          refine x_iconst X (v := 1) dX12_see_69 (by decide) ?_
          refine x_iadd X dX12_see_70 ?_
          refine x_puti X (i := 52) fl_X12_99_13 fw_13 (sdM_52 hω) (ks_52 _) rfl rfl rfl rfl dX12_see_71 ?_
          obtain ⟨h14, eh14, hf⟩ := nm_some hf
          refine x_nmh eh14 ?_
          refine x_aload_n X dX12_see_74 0 rfl rfl ?_
          refine x_geti X (i := 52) fl_X12_99_13 (sdM_52 hω) (ks_52 _) rfl dX12_see_75 ?_
          exact x_retSI X R hf dX12_see_78
theorem mt_X12_see : MT yX12_see cX12_see 3 (some .int) "SignalBlindModel" 2 := ⟨(mT_6 201 rfl rfl), (mT_6 202 rfl rfl), (mT_1 10 rfl rfl), (mT_6 203 rfl rfl), by decide⟩

abbrev rm_X12_isSeen : Room := { frames := 6, cells := 0, slots := 0, locals := 144 }
def f_X12_isSeen_2 : Nat → hp → Int32 → Int32 → Option (hp × Int32)
  | 0, _, _, _ => none
  | n + 1, h, a1, a2 => (if a2 < (hI h 52 29) then
 (chk a2 5
 (chk (aI h 71 (a2).toNatClampNeg) 8
 (bnd (f_X12_showsOf h a1 (aI h 53 ((aI h 71 (a2).toNatClampNeg)).toNatClampNeg)) fun h6 r7 =>
 (chk a2 5
 (if r7 = (aI h6 72 (a2).toNatClampNeg) then
 (nm (a2 + (1 : Int32)) fun v11 =>
 ((f_X12_isSeen_2 n) h6 a1 v11))
 else
 (some (h6, (0 : Int32))))))))
 else
 (some (h, (1 : Int32))))
def f_X12_isSeen (h : hp) (p0 : Int32) : Option (hp × Int32) := (f_X12_isSeen_2 2000 h p0 (0 : Int32))
set_option maxRecDepth 100000 in
set_option maxHeartbeats 4000000 in
theorem k_X12_isSeen_2 {ω : XO} (hω : ω.2.2.2.1 = 0) {κ : XK} (X : XC ω rm_X12_isSeen 3 κ cX12_isSeen "SignalBlindModel") {L : List Nat} {q : Nat → Nat} {h' : hp} {r : Int32} (R : XRet ω rm_X12_isSeen κ (some .boolean) L q h' (some (.int r))) : ∀ (n : Nat) (h : hp) (a1 : Int32) (a2 : Int32), f_X12_isSeen_2 n h a1 a2 = some (h', r) → XG ω rm_X12_isSeen 3 κ L q h 0 0 2 [(0, .ref (q 52)), (1, .int a1), (2, .int a2)] [] := by
  intro n
  induction n with
  | zero =>
    intro h a1 a2 hf
    have hf : (none : Option (hp × Int32)) = some (h', r) := hf
    cases hf
  | succ n ih =>
    intro h a1 a2 hf
    rw [f_X12_isSeen_2] at hf
    refine x_iload_n X dX12_isSeen_2 2 rfl rfl ?_
    refine x_aload_n X dX12_isSeen_3 0 rfl rfl ?_
    refine x_geti X (i := 52) fl_X12_99_13 (sdM_52 hω) (ks_52 _) rfl dX12_isSeen_4 ?_
    refine x_icmp_ge X 43 dX12_isSeen_7 (by decide) (fun c3 => ?_) (fun c3 => ?_)
    · replace hf := (if_pos c3).symm.trans hf
      refine x_aload_n X dX12_isSeen_10 0 rfl rfl ?_
      refine x_iload_n X dX12_isSeen_11 1 rfl rfl ?_
      refine x_aload_n X dX12_isSeen_12 0 rfl rfl ?_
      refine x_getsj X (i := 52) 1 fl_X12_19_13 (sdM_52 hω) (ks_52 _) rfl (j := 53) rfl dX12_isSeen_13 ?_
      refine x_aload_n X dX12_isSeen_16 0 rfl rfl ?_
      refine x_getsj X (i := 52) 19 fl_X12_102_13 (sdM_52 hω) (ks_52 _) rfl (j := 71) rfl dX12_isSeen_17 ?_
      refine x_iload_n X dX12_isSeen_20 2 rfl rfl ?_
      obtain ⟨z4, hf⟩ := chk_some hf
      refine x_iald X (i := 71) (n := 5) (sdM_71 hω) (ks_71 _) z4 dX12_isSeen_21 ?_
      obtain ⟨z5, hf⟩ := chk_some hf
      refine x_iald X (i := 53) (n := 8) (sdM_53 hω) (ks_53 _) z5 dX12_isSeen_22 ?_
      obtain ⟨h6, r7, g8, hf⟩ := bnd_some hf
      refine c_X12_290 X hω g8 (hR := ⟨Nat.le_of_ble_eq_true rfl, Nat.le_of_ble_eq_true rfl⟩) ⟨Nat.zero_le _, Nat.zero_le _⟩ (Nat.le_of_ble_eq_true rfl) dX12_isSeen_23 ?_
      refine x_aload_n X dX12_isSeen_26 0 rfl rfl ?_
      refine x_getsj X (i := 52) 20 fl_X12_105_13 (sdM_52 hω) (ks_52 _) rfl (j := 72) rfl dX12_isSeen_27 ?_
      refine x_iload_n X dX12_isSeen_30 2 rfl rfl ?_
      obtain ⟨z9, hf⟩ := chk_some hf
      refine x_iald X (i := 72) (n := 5) (sdM_72 hω) (ks_72 _) z9 dX12_isSeen_31 ?_
      refine x_icmp_eq X 37 dX12_isSeen_32 (by decide) (fun c10 => ?_) (fun c10 => ?_)
      · replace hf := (if_pos c10).symm.trans hf
        obtain ⟨v11, ev11, hf⟩ := nm_some hf
        refine x_iincN X (v := 1) ev11 [(2, .int v11), (0, .ref (q 52)), (1, .int a1)] dX12_isSeen_37 2 rfl (by decide) (Nat.le_of_ble_eq_true rfl) rfl ?_
        refine x_goto X 2 dX12_isSeen_40 (by decide) ?_
        refine x_lv [1, 2, 0] rfl ?_
        exact ih h6 _ _ hf
      · replace hf := (if_neg c10).symm.trans hf
        refine x_iconst X (v := 0) dX12_isSeen_35 (by decide) ?_
        exact x_retSZ X R (by decide) hf dX12_isSeen_36
    · replace hf := (if_neg c3).symm.trans hf
      refine x_iconst X (v := 1) dX12_isSeen_43 (by decide) ?_
      exact x_retSZ X R (by decide) hf dX12_isSeen_44
set_option maxRecDepth 100000 in
set_option maxHeartbeats 4000000 in
theorem k_X12_isSeen {ω : XO} (hω : ω.2.2.2.1 = 0) {L : List Nat} {q : Nat → Nat} {h h' : hp} {p0 : Int32} {r : Int32} (hf : f_X12_isSeen h p0 = some (h', r)) : XM ω yX12_isSeen cX12_isSeen 3 (some .boolean) rm_X12_isSeen L q h [.ref (q 52), .int p0] (some (.int r)) h' := by
  refine XM_intro [(0, .ref (q 52)), (1, .int p0)] "SignalBlindModel" (by decide) rfl rfl (Nat.le_of_ble_eq_true rfl) (fun κ X R => ?_)
  unfold f_X12_isSeen at hf
  refine x_iconst X (v := 0) dX12_isSeen_0 (by decide) ?_
  refine x_istore_n X [(2, .int (0 : Int32)), (0, .ref (q 52)), (1, .int p0)] dX12_isSeen_1 rfl (Nat.le_of_ble_eq_true rfl) rfl ?_
  refine x_lv [1, 2, 0] rfl ?_
  exact k_X12_isSeen_2 hω X R _ h _ _ hf
theorem mt_X12_isSeen : MT yX12_isSeen cX12_isSeen 3 (some .boolean) "SignalBlindModel" 1 := ⟨(mT_6 210 rfl rfl), (mTp (q := (yX12_isSeen, 61)) (by decide +kernel) rfl), (mT_1 10 rfl rfl), (mT_6 211 rfl rfl), by decide⟩
theorem c_X12_318 {ω : XO} {rm : Room} {nL : Nat} {κ : XK} {cc : ByteArray} (X : XC ω rm nL κ cc "SignalBlindModel") (hω : ω.2.2.2.1 = 0) {L : List Nat} {q : Nat → Nat} {h h' : hp} {cells slots pc : Nat} {lv : List (Nat × Value)} {rest : List Value} {p0 : Int32} {r : Int32} (hf : f_X12_isSeen h p0 = some (h', r)) (hR : rm_X12_isSeen.frames + 1 ≤ rm.frames ∧ 8 + (3 + 11) + rm_X12_isSeen.locals ≤ rm.locals) (hcs : cells ≤ rm.cells ∧ slots ≤ rm.slots) (hroom : (rest.map fun v => v.category).sum ≤ 8) (hd : decode cc pc = .ok (.invokevirtual 318, 3)) (kk : XG ω rm nL κ L q h' cells slots (pc + 3) lv (.int r :: rest)) : XG ω rm nL κ L q h cells slots pc lv (.int p0 :: .ref (q 52) :: rest) := x_callV X [.int p0] rest (k_X12_isSeen hω hf) mt_X12_isSeen (mT_6 208 rfl rfl) hR ⟨rfl, rfl⟩ hcs (sdM_52 hω) (ks_52 _) (by decide) rfl rfl hroom hd kk

abbrev rm_X12_can : Room := { frames := 7, cells := 0, slots := 0, locals := 166 }
def f_X12_can_18 (h : hp) : Option (hp × Int32) := (some (h, (-1 : Int32)))
def f_X12_can_93 (h : hp) (a19 : Int32) : Option (hp × Int32) := (some (h, a19))
def f_X12_can_69 (k38 : hp → Int32 → Int32 → Int32 → Int32 → Int32 → Int32 → Option (hp × Int32)) (h : hp) (a26 : Int32) (a27 : Int32) (a28 : Int32) (a29 : Int32) (a30 : Int32) (a31 : Int32) : Option (hp × Int32) := (nm (a31 + (-1 : Int32)) fun v32 =>
 (k38 h a26 a27 a28 a29 a30 v32))
def f_X12_can_38 : Nat → hp → Int32 → Int32 → Int32 → Int32 → Int32 → Int32 → Option (hp × Int32)
  | 0, _, _, _, _, _, _, _ => none
  | n + 1, h, a9, a10, a11, a12, a13, a14 => (if a14 < 0 then
 (chk a9 5
 (nm (tI h 55 (a9).toNatClampNeg a11) fun h17 =>
 (if a10 = 0 then
 (f_X12_can_93 h17 a12)
 else
 (f_X12_can_93 h17 a13))))
 else
 (chk a9 5
 (nm (tI h 55 (a9).toNatClampNeg a14) fun h21 =>
 (bnd (f_X12_isSeen h21 a9) fun h22 r23 =>
 (if r23 = 0 then
 (f_X12_can_69 (f_X12_can_38 n) h22 a9 a10 a11 a12 a13 a14)
 else
 (nm (a12 + (1 : Int32)) fun v33 =>
 (f_X12_can_69 (f_X12_can_38 n) h22 a9 a10 a11 v33 a14 a14)))))))
def f_X12_can (h : hp) (p0 : Int32) (p1 : Int32) : Option (hp × Int32) := (bnr (f_X12_isSender h p0) fun r1 =>
 (if r1 = 0 then
 (f_X12_can_18 h)
 else
 (bnr (f_X12_in h p1 (0 : Int32) (1 : Int32)) fun r4 =>
 (if r4 = 0 then
 (f_X12_can_18 h)
 else
 (chk p0 5
 (nm (aI h 55 (p0).toNatClampNeg) fun v8 =>
 (f_X12_can_38 2000 h p0 p1 v8 (0 : Int32) (-5 : Int32) (9 : Int32))))))))
set_option maxRecDepth 100000 in
set_option maxHeartbeats 4000000 in
theorem k_X12_can_18 {ω : XO} (hω : ω.2.2.2.1 = 0) {κ : XK} (X : XC ω rm_X12_can 7 κ cX12_can "SignalBlindModel") {L : List Nat} {q : Nat → Nat} {h' : hp} {r : Int32} (R : XRet ω rm_X12_can κ (some .int) L q h' (some (.int r))) : ∀ (h : hp), f_X12_can_18 h = some (h', r) → XG ω rm_X12_can 7 κ L q h 0 0 18 [] [] := by
  intro h hf
  unfold f_X12_can_18 at hf
  refine x_iconst X (v := -1) dX12_can_18 (by decide) ?_
  exact x_retSI X R hf dX12_can_19
set_option maxRecDepth 100000 in
set_option maxHeartbeats 4000000 in
theorem k_X12_can_93 {ω : XO} (hω : ω.2.2.2.1 = 0) {κ : XK} (X : XC ω rm_X12_can 7 κ cX12_can "SignalBlindModel") {L : List Nat} {q : Nat → Nat} {h' : hp} {r : Int32} (R : XRet ω rm_X12_can κ (some .int) L q h' (some (.int r))) : ∀ (h : hp) (a19 : Int32), f_X12_can_93 h a19 = some (h', r) → XG ω rm_X12_can 7 κ L q h 0 0 93 [] [.int a19] := by
  intro h a19 hf
  unfold f_X12_can_93 at hf
  exact x_retSI X R hf dX12_can_93
set_option maxRecDepth 100000 in
set_option maxHeartbeats 4000000 in
theorem k_X12_can_69 {ω : XO} (hω : ω.2.2.2.1 = 0) {κ : XK} (X : XC ω rm_X12_can 7 κ cX12_can "SignalBlindModel") {L : List Nat} {q : Nat → Nat} {h' : hp} {r : Int32} (R : XRet ω rm_X12_can κ (some .int) L q h' (some (.int r))) (k38 : hp → Int32 → Int32 → Int32 → Int32 → Int32 → Int32 → Option (hp × Int32)) (hk38 : ∀ (h : hp) (a9 : Int32) (a10 : Int32) (a11 : Int32) (a12 : Int32) (a13 : Int32) (a14 : Int32), k38 h a9 a10 a11 a12 a13 a14 = some (h', r) → XG ω rm_X12_can 7 κ L q h 0 0 38 [(0, .ref (q 52)), (1, .int a9), (2, .int a10), (3, .int a11), (4, .int a12), (5, .int a13), (6, .int a14)] []) : ∀ (h : hp) (a26 : Int32) (a27 : Int32) (a28 : Int32) (a29 : Int32) (a30 : Int32) (a31 : Int32), f_X12_can_69 k38 h a26 a27 a28 a29 a30 a31 = some (h', r) → XG ω rm_X12_can 7 κ L q h 0 0 69 [(0, .ref (q 52)), (1, .int a26), (2, .int a27), (3, .int a28), (4, .int a29), (5, .int a30), (6, .int a31)] [] := by
  intro h a26 a27 a28 a29 a30 a31 hf
  unfold f_X12_can_69 at hf
  obtain ⟨v32, ev32, hf⟩ := nm_some hf
  refine x_iincN X (v := -1) ev32 [(6, .int v32), (0, .ref (q 52)), (1, .int a26), (2, .int a27), (3, .int a28), (4, .int a29), (5, .int a30)] dX12_can_69 6 rfl (by decide) (Nat.le_of_ble_eq_true rfl) rfl ?_
  refine x_goto X 38 dX12_can_72 (by decide) ?_
  refine x_lv [1, 2, 3, 4, 5, 6, 0] rfl ?_
  exact hk38 h _ _ _ _ _ _ hf
set_option maxRecDepth 100000 in
set_option maxHeartbeats 4000000 in
theorem k_X12_can_38 {ω : XO} (hω : ω.2.2.2.1 = 0) {κ : XK} (X : XC ω rm_X12_can 7 κ cX12_can "SignalBlindModel") {L : List Nat} {q : Nat → Nat} {h' : hp} {r : Int32} (R : XRet ω rm_X12_can κ (some .int) L q h' (some (.int r))) : ∀ (n : Nat) (h : hp) (a9 : Int32) (a10 : Int32) (a11 : Int32) (a12 : Int32) (a13 : Int32) (a14 : Int32), f_X12_can_38 n h a9 a10 a11 a12 a13 a14 = some (h', r) → XG ω rm_X12_can 7 κ L q h 0 0 38 [(0, .ref (q 52)), (1, .int a9), (2, .int a10), (3, .int a11), (4, .int a12), (5, .int a13), (6, .int a14)] [] := by
  intro n
  induction n with
  | zero =>
    intro h a9 a10 a11 a12 a13 a14 hf
    have hf : (none : Option (hp × Int32)) = some (h', r) := hf
    cases hf
  | succ n ih =>
    intro h a9 a10 a11 a12 a13 a14 hf
    rw [f_X12_can_38] at hf
    refine x_iload X dX12_can_38 6 rfl ?_
    refine x_if_lt X 75 dX12_can_40 (by decide) (fun c15 => ?_) (fun c15 => ?_)
    · replace hf := (if_pos c15).symm.trans hf
      refine x_aload_n X dX12_can_75 0 rfl rfl ?_
      refine x_getsj X (i := 52) 3 fl_X12_26_13 (sdM_52 hω) (ks_52 _) rfl (j := 55) rfl dX12_can_76 ?_
      refine x_iload_n X dX12_can_79 1 rfl rfl ?_
      refine x_iload_n X dX12_can_80 3 rfl rfl ?_
      obtain ⟨z16, hf⟩ := chk_some hf
      refine x_iast X (i := 55) (n := 5) (sdM_55 hω) (ks_55 _) z16 dX12_can_81 ?_
      obtain ⟨h17, eh17, hf⟩ := nm_some hf
      refine x_nmh eh17 ?_
      refine x_iload_n X dX12_can_82 2 rfl rfl ?_
      refine x_if_ne X 91 dX12_can_83 (by decide) (fun c18 => ?_) (fun c18 => ?_)
      · replace hf := (if_pos c18).symm.trans hf
        refine x_iload X dX12_can_86 4 rfl ?_
        refine x_goto X 93 dX12_can_88 (by decide) ?_
        refine x_lv [] rfl ?_
        exact k_X12_can_93 hω X R h17 _ hf
      · replace hf := (if_neg c18).symm.trans hf
        refine x_iload X dX12_can_91 5 rfl ?_
        refine x_lv [] rfl ?_
        exact k_X12_can_93 hω X R h17 _ hf
    · replace hf := (if_neg c15).symm.trans hf
      refine x_aload_n X dX12_can_43 0 rfl rfl ?_
      refine x_getsj X (i := 52) 3 fl_X12_26_13 (sdM_52 hω) (ks_52 _) rfl (j := 55) rfl dX12_can_44 ?_
      refine x_iload_n X dX12_can_47 1 rfl rfl ?_
      refine x_iload X dX12_can_48 6 rfl ?_
      obtain ⟨z20, hf⟩ := chk_some hf
      refine x_iast X (i := 55) (n := 5) (sdM_55 hω) (ks_55 _) z20 dX12_can_50 ?_
      obtain ⟨h21, eh21, hf⟩ := nm_some hf
      refine x_nmh eh21 ?_
      refine x_aload_n X dX12_can_51 0 rfl rfl ?_
      refine x_iload_n X dX12_can_52 1 rfl rfl ?_
      obtain ⟨h22, r23, g24, hf⟩ := bnd_some hf
      refine c_X12_318 X hω g24 (hR := ⟨Nat.le_of_ble_eq_true rfl, Nat.le_of_ble_eq_true rfl⟩) ⟨Nat.zero_le _, Nat.zero_le _⟩ (Nat.le_of_ble_eq_true rfl) dX12_can_53 ?_
      refine x_if_ne X 62 dX12_can_56 (by decide) (fun c25 => ?_) (fun c25 => ?_)
      · replace hf := (if_pos c25).symm.trans hf
        refine x_goto X 69 dX12_can_59 (by decide) ?_
        refine x_lv [0, 1, 2, 3, 4, 5, 6] rfl ?_
        exact k_X12_can_69 hω X R _ ih h22 _ _ _ _ _ _ hf
      · replace hf := (if_neg c25).symm.trans hf
        obtain ⟨v33, ev33, hf⟩ := nm_some hf
        refine x_iincN X (v := 1) ev33 [(4, .int v33), (0, .ref (q 52)), (1, .int a9), (2, .int a10), (3, .int a11), (5, .int a13), (6, .int a14)] dX12_can_62 4 rfl (by decide) (Nat.le_of_ble_eq_true rfl) rfl ?_
        refine x_iload X dX12_can_65 6 rfl ?_
        refine x_istore X [(5, .int a14), (4, .int v33), (0, .ref (q 52)), (1, .int a9), (2, .int a10), (3, .int a11), (6, .int a14)] dX12_can_67 (Nat.le_of_ble_eq_true rfl) rfl ?_
        refine x_lv [2, 3, 4, 5, 1, 0, 6] rfl ?_
        exact k_X12_can_69 hω X R _ ih h22 _ _ _ _ _ _ hf
set_option maxRecDepth 100000 in
set_option maxHeartbeats 4000000 in
theorem k_X12_can {ω : XO} (hω : ω.2.2.2.1 = 0) {L : List Nat} {q : Nat → Nat} {h h' : hp} {p0 : Int32} {p1 : Int32} {r : Int32} (hf : f_X12_can h p0 p1 = some (h', r)) : XM ω yX12_can cX12_can 7 (some .int) rm_X12_can L q h [.ref (q 52), .int p0, .int p1] (some (.int r)) h' := by
  refine XM_intro [(0, .ref (q 52)), (1, .int p0), (2, .int p1)] "SignalBlindModel" (by decide) rfl rfl (Nat.le_of_ble_eq_true rfl) (fun κ X R => ?_)
  unfold f_X12_can at hf
  refine x_aload_n X dX12_can_0 0 rfl rfl ?_
  refine x_iload_n X dX12_can_1 1 rfl rfl ?_
  obtain ⟨r1, g2, hf⟩ := bnr_some hf
  refine c_X12_212 X hω g2 (hR := ⟨Nat.le_of_ble_eq_true rfl, Nat.le_of_ble_eq_true rfl⟩) ⟨Nat.zero_le _, Nat.zero_le _⟩ (Nat.le_of_ble_eq_true rfl) dX12_can_2 ?_
  refine x_if_eq X 18 dX12_can_5 (by decide) (fun c3 => ?_) (fun c3 => ?_)
  · replace hf := (if_pos c3).symm.trans hf
    refine x_lv [] rfl ?_
    exact k_X12_can_18 hω X R h hf
  · replace hf := (if_neg c3).symm.trans hf
    refine x_aload_n X dX12_can_8 0 rfl rfl ?_
    refine x_iload_n X dX12_can_9 2 rfl rfl ?_
    refine x_iconst X (v := 0) dX12_can_10 (by decide) ?_
    refine x_iconst X (v := 1) dX12_can_11 (by decide) ?_
    obtain ⟨r4, g5, hf⟩ := bnr_some hf
    refine c_X12_201 X hω g5 (hR := ⟨Nat.le_of_ble_eq_true rfl, Nat.le_of_ble_eq_true rfl⟩) ⟨Nat.zero_le _, Nat.zero_le _⟩ (Nat.le_of_ble_eq_true rfl) dX12_can_12 ?_
    refine x_if_ne X 20 dX12_can_15 (by decide) (fun c6 => ?_) (fun c6 => ?_)
    · replace hf := (if_pos c6).symm.trans hf
      refine x_lv [] rfl ?_
      exact k_X12_can_18 hω X R h hf
    · replace hf := (if_neg c6).symm.trans hf
      refine x_aload_n X dX12_can_20 0 rfl rfl ?_
      refine x_getsj X (i := 52) 3 fl_X12_26_13 (sdM_52 hω) (ks_52 _) rfl (j := 55) rfl dX12_can_21 ?_
      refine x_iload_n X dX12_can_24 1 rfl rfl ?_
      obtain ⟨z7, hf⟩ := chk_some hf
      refine x_iald X (i := 55) (n := 5) (sdM_55 hω) (ks_55 _) z7 dX12_can_25 ?_
      obtain ⟨v8, ev8, hf⟩ := nm_some hf
      refine x_nmI ev8 ?_
      refine x_istore_n X [(3, .int v8), (0, .ref (q 52)), (1, .int p0), (2, .int p1)] dX12_can_26 rfl (Nat.le_of_ble_eq_true rfl) rfl ?_
      refine x_iconst X (v := 0) dX12_can_27 (by decide) ?_
      refine x_istore X [(4, .int (0 : Int32)), (3, .int v8), (0, .ref (q 52)), (1, .int p0), (2, .int p1)] dX12_can_28 (Nat.le_of_ble_eq_true rfl) rfl ?_
      refine x_bipush X (v := -5) dX12_can_30 (by decide) ?_
      refine x_istore X [(5, .int (-5 : Int32)), (4, .int (0 : Int32)), (3, .int v8), (0, .ref (q 52)), (1, .int p0), (2, .int p1)] dX12_can_32 (Nat.le_of_ble_eq_true rfl) rfl ?_
      refine x_bipush X (v := 9) dX12_can_34 (by decide) ?_
      refine x_istore X [(6, .int (9 : Int32)), (5, .int (-5 : Int32)), (4, .int (0 : Int32)), (3, .int v8), (0, .ref (q 52)), (1, .int p0), (2, .int p1)] dX12_can_36 (Nat.le_of_ble_eq_true rfl) rfl ?_
      refine x_lv [4, 5, 6, 3, 2, 1, 0] rfl ?_
      exact k_X12_can_38 hω X R _ h _ _ _ _ _ _ hf
theorem mt_X12_can : MT yX12_can cX12_can 7 (some .int) "SignalBlindModel" 2 := ⟨(mT_6 205 rfl rfl), (mT_6 206 rfl rfl), (mT_1 10 rfl rfl), (mT_6 207 rfl rfl), by decide⟩

abbrev rm_X12_when : Room := { frames := 7, cells := 0, slots := 0, locals := 166 }
def f_X12_when_18 (h : hp) : Option (hp × Int32) := (some (h, (-1 : Int32)))
def f_X12_when_89 (h : hp) (a17 : Int32) : Option (hp × Int32) := (some (h, a17))
def f_X12_when_67 (k36 : hp → Int32 → Int32 → Int32 → Int32 → Int32 → Int32 → Option (hp × Int32)) (h : hp) (a23 : Int32) (a24 : Int32) (a25 : Int32) (a26 : Int32) (a27 : Int32) (a28 : Int32) : Option (hp × Int32) := (nm (a28 + (-1 : Int32)) fun v29 =>
 (k36 h a23 a24 a25 a26 a27 v29))
def f_X12_when_36 : Nat → hp → Int32 → Int32 → Int32 → Int32 → Int32 → Int32 → Option (hp × Int32)
  | 0, _, _, _, _, _, _, _ => none
  | n + 1, h, a8, a9, a10, a11, a12, a13 => (if a13 < 0 then
 (nm (sI h 52 2 a10) fun h15 =>
 (if a9 = 0 then
 (f_X12_when_89 h15 a11)
 else
 (f_X12_when_89 h15 a12)))
 else
 (nm (sI h 52 2 (a10 + a13)) fun h18 =>
 (bnd (f_X12_isSeen h18 a8) fun h19 r20 =>
 (if r20 = 0 then
 (f_X12_when_67 (f_X12_when_36 n) h19 a8 a9 a10 a11 a12 a13)
 else
 (nm (a11 + (1 : Int32)) fun v30 =>
 (f_X12_when_67 (f_X12_when_36 n) h19 a8 a9 a10 v30 a13 a13))))))
def f_X12_when (h : hp) (p0 : Int32) (p1 : Int32) : Option (hp × Int32) := (bnr (f_X12_isSender h p0) fun r1 =>
 (if r1 = 0 then
 (f_X12_when_18 h)
 else
 (bnr (f_X12_in h p1 (0 : Int32) (1 : Int32)) fun r4 =>
 (if r4 = 0 then
 (f_X12_when_18 h)
 else
 (nm (hI h 52 2) fun v7 =>
 (f_X12_when_36 2000 h p0 p1 v7 (0 : Int32) (-5 : Int32) (23 : Int32)))))))
set_option maxRecDepth 100000 in
set_option maxHeartbeats 4000000 in
theorem k_X12_when_18 {ω : XO} (hω : ω.2.2.2.1 = 0) {κ : XK} (X : XC ω rm_X12_when 7 κ cX12_when "SignalBlindModel") {L : List Nat} {q : Nat → Nat} {h' : hp} {r : Int32} (R : XRet ω rm_X12_when κ (some .int) L q h' (some (.int r))) : ∀ (h : hp), f_X12_when_18 h = some (h', r) → XG ω rm_X12_when 7 κ L q h 0 0 18 [] [] := by
  intro h hf
  unfold f_X12_when_18 at hf
  refine x_iconst X (v := -1) dX12_when_18 (by decide) ?_
  exact x_retSI X R hf dX12_when_19
set_option maxRecDepth 100000 in
set_option maxHeartbeats 4000000 in
theorem k_X12_when_89 {ω : XO} (hω : ω.2.2.2.1 = 0) {κ : XK} (X : XC ω rm_X12_when 7 κ cX12_when "SignalBlindModel") {L : List Nat} {q : Nat → Nat} {h' : hp} {r : Int32} (R : XRet ω rm_X12_when κ (some .int) L q h' (some (.int r))) : ∀ (h : hp) (a17 : Int32), f_X12_when_89 h a17 = some (h', r) → XG ω rm_X12_when 7 κ L q h 0 0 89 [] [.int a17] := by
  intro h a17 hf
  unfold f_X12_when_89 at hf
  exact x_retSI X R hf dX12_when_89
set_option maxRecDepth 100000 in
set_option maxHeartbeats 4000000 in
theorem k_X12_when_67 {ω : XO} (hω : ω.2.2.2.1 = 0) {κ : XK} (X : XC ω rm_X12_when 7 κ cX12_when "SignalBlindModel") {L : List Nat} {q : Nat → Nat} {h' : hp} {r : Int32} (R : XRet ω rm_X12_when κ (some .int) L q h' (some (.int r))) (k36 : hp → Int32 → Int32 → Int32 → Int32 → Int32 → Int32 → Option (hp × Int32)) (hk36 : ∀ (h : hp) (a8 : Int32) (a9 : Int32) (a10 : Int32) (a11 : Int32) (a12 : Int32) (a13 : Int32), k36 h a8 a9 a10 a11 a12 a13 = some (h', r) → XG ω rm_X12_when 7 κ L q h 0 0 36 [(0, .ref (q 52)), (1, .int a8), (2, .int a9), (3, .int a10), (4, .int a11), (5, .int a12), (6, .int a13)] []) : ∀ (h : hp) (a23 : Int32) (a24 : Int32) (a25 : Int32) (a26 : Int32) (a27 : Int32) (a28 : Int32), f_X12_when_67 k36 h a23 a24 a25 a26 a27 a28 = some (h', r) → XG ω rm_X12_when 7 κ L q h 0 0 67 [(0, .ref (q 52)), (1, .int a23), (2, .int a24), (3, .int a25), (4, .int a26), (5, .int a27), (6, .int a28)] [] := by
  intro h a23 a24 a25 a26 a27 a28 hf
  unfold f_X12_when_67 at hf
  obtain ⟨v29, ev29, hf⟩ := nm_some hf
  refine x_iincN X (v := -1) ev29 [(6, .int v29), (0, .ref (q 52)), (1, .int a23), (2, .int a24), (3, .int a25), (4, .int a26), (5, .int a27)] dX12_when_67 6 rfl (by decide) (Nat.le_of_ble_eq_true rfl) rfl ?_
  refine x_goto X 36 dX12_when_70 (by decide) ?_
  refine x_lv [1, 2, 3, 4, 5, 6, 0] rfl ?_
  exact hk36 h _ _ _ _ _ _ hf
set_option maxRecDepth 100000 in
set_option maxHeartbeats 4000000 in
theorem k_X12_when_36 {ω : XO} (hω : ω.2.2.2.1 = 0) {κ : XK} (X : XC ω rm_X12_when 7 κ cX12_when "SignalBlindModel") {L : List Nat} {q : Nat → Nat} {h' : hp} {r : Int32} (R : XRet ω rm_X12_when κ (some .int) L q h' (some (.int r))) : ∀ (n : Nat) (h : hp) (a8 : Int32) (a9 : Int32) (a10 : Int32) (a11 : Int32) (a12 : Int32) (a13 : Int32), f_X12_when_36 n h a8 a9 a10 a11 a12 a13 = some (h', r) → XG ω rm_X12_when 7 κ L q h 0 0 36 [(0, .ref (q 52)), (1, .int a8), (2, .int a9), (3, .int a10), (4, .int a11), (5, .int a12), (6, .int a13)] [] := by
  intro n
  induction n with
  | zero =>
    intro h a8 a9 a10 a11 a12 a13 hf
    have hf : (none : Option (hp × Int32)) = some (h', r) := hf
    cases hf
  | succ n ih =>
    intro h a8 a9 a10 a11 a12 a13 hf
    rw [f_X12_when_36] at hf
    refine x_iload X dX12_when_36 6 rfl ?_
    refine x_if_lt X 73 dX12_when_38 (by decide) (fun c14 => ?_) (fun c14 => ?_)
    · replace hf := (if_pos c14).symm.trans hf
      refine x_aload_n X dX12_when_73 0 rfl rfl ?_
      refine x_iload_n X dX12_when_74 3 rfl rfl ?_
      refine x_puti X (i := 52) fl_X12_16_13 fw_13 (sdM_52 hω) (ks_52 _) rfl rfl rfl rfl dX12_when_75 ?_
      obtain ⟨h15, eh15, hf⟩ := nm_some hf
      refine x_nmh eh15 ?_
      refine x_iload_n X dX12_when_78 2 rfl rfl ?_
      refine x_if_ne X 87 dX12_when_79 (by decide) (fun c16 => ?_) (fun c16 => ?_)
      · replace hf := (if_pos c16).symm.trans hf
        refine x_iload X dX12_when_82 4 rfl ?_
        refine x_goto X 89 dX12_when_84 (by decide) ?_
        refine x_lv [] rfl ?_
        exact k_X12_when_89 hω X R h15 _ hf
      · replace hf := (if_neg c16).symm.trans hf
        refine x_iload X dX12_when_87 5 rfl ?_
        refine x_lv [] rfl ?_
        exact k_X12_when_89 hω X R h15 _ hf
    · replace hf := (if_neg c14).symm.trans hf
      refine x_aload_n X dX12_when_41 0 rfl rfl ?_
      refine x_iload_n X dX12_when_42 3 rfl rfl ?_
      refine x_iload X dX12_when_43 6 rfl ?_
      refine x_iadd X dX12_when_45 ?_
      refine x_puti X (i := 52) fl_X12_16_13 fw_13 (sdM_52 hω) (ks_52 _) rfl rfl rfl rfl dX12_when_46 ?_
      obtain ⟨h18, eh18, hf⟩ := nm_some hf
      refine x_nmh eh18 ?_
      refine x_aload_n X dX12_when_49 0 rfl rfl ?_
      refine x_iload_n X dX12_when_50 1 rfl rfl ?_
      obtain ⟨h19, r20, g21, hf⟩ := bnd_some hf
      refine c_X12_318 X hω g21 (hR := ⟨Nat.le_of_ble_eq_true rfl, Nat.le_of_ble_eq_true rfl⟩) ⟨Nat.zero_le _, Nat.zero_le _⟩ (Nat.le_of_ble_eq_true rfl) dX12_when_51 ?_
      refine x_if_ne X 60 dX12_when_54 (by decide) (fun c22 => ?_) (fun c22 => ?_)
      · replace hf := (if_pos c22).symm.trans hf
        refine x_goto X 67 dX12_when_57 (by decide) ?_
        refine x_lv [0, 1, 2, 3, 4, 5, 6] rfl ?_
        exact k_X12_when_67 hω X R _ ih h19 _ _ _ _ _ _ hf
      · replace hf := (if_neg c22).symm.trans hf
        obtain ⟨v30, ev30, hf⟩ := nm_some hf
        refine x_iincN X (v := 1) ev30 [(4, .int v30), (0, .ref (q 52)), (1, .int a8), (2, .int a9), (3, .int a10), (5, .int a12), (6, .int a13)] dX12_when_60 4 rfl (by decide) (Nat.le_of_ble_eq_true rfl) rfl ?_
        refine x_iload X dX12_when_63 6 rfl ?_
        refine x_istore X [(5, .int a13), (4, .int v30), (0, .ref (q 52)), (1, .int a8), (2, .int a9), (3, .int a10), (6, .int a13)] dX12_when_65 (Nat.le_of_ble_eq_true rfl) rfl ?_
        refine x_lv [2, 3, 4, 5, 1, 0, 6] rfl ?_
        exact k_X12_when_67 hω X R _ ih h19 _ _ _ _ _ _ hf
set_option maxRecDepth 100000 in
set_option maxHeartbeats 4000000 in
theorem k_X12_when {ω : XO} (hω : ω.2.2.2.1 = 0) {L : List Nat} {q : Nat → Nat} {h h' : hp} {p0 : Int32} {p1 : Int32} {r : Int32} (hf : f_X12_when h p0 p1 = some (h', r)) : XM ω yX12_when cX12_when 7 (some .int) rm_X12_when L q h [.ref (q 52), .int p0, .int p1] (some (.int r)) h' := by
  refine XM_intro [(0, .ref (q 52)), (1, .int p0), (2, .int p1)] "SignalBlindModel" (by decide) rfl rfl (Nat.le_of_ble_eq_true rfl) (fun κ X R => ?_)
  unfold f_X12_when at hf
  refine x_aload_n X dX12_when_0 0 rfl rfl ?_
  refine x_iload_n X dX12_when_1 1 rfl rfl ?_
  obtain ⟨r1, g2, hf⟩ := bnr_some hf
  refine c_X12_212 X hω g2 (hR := ⟨Nat.le_of_ble_eq_true rfl, Nat.le_of_ble_eq_true rfl⟩) ⟨Nat.zero_le _, Nat.zero_le _⟩ (Nat.le_of_ble_eq_true rfl) dX12_when_2 ?_
  refine x_if_eq X 18 dX12_when_5 (by decide) (fun c3 => ?_) (fun c3 => ?_)
  · replace hf := (if_pos c3).symm.trans hf
    refine x_lv [] rfl ?_
    exact k_X12_when_18 hω X R h hf
  · replace hf := (if_neg c3).symm.trans hf
    refine x_aload_n X dX12_when_8 0 rfl rfl ?_
    refine x_iload_n X dX12_when_9 2 rfl rfl ?_
    refine x_iconst X (v := 0) dX12_when_10 (by decide) ?_
    refine x_iconst X (v := 1) dX12_when_11 (by decide) ?_
    obtain ⟨r4, g5, hf⟩ := bnr_some hf
    refine c_X12_201 X hω g5 (hR := ⟨Nat.le_of_ble_eq_true rfl, Nat.le_of_ble_eq_true rfl⟩) ⟨Nat.zero_le _, Nat.zero_le _⟩ (Nat.le_of_ble_eq_true rfl) dX12_when_12 ?_
    refine x_if_ne X 20 dX12_when_15 (by decide) (fun c6 => ?_) (fun c6 => ?_)
    · replace hf := (if_pos c6).symm.trans hf
      refine x_lv [] rfl ?_
      exact k_X12_when_18 hω X R h hf
    · replace hf := (if_neg c6).symm.trans hf
      refine x_aload_n X dX12_when_20 0 rfl rfl ?_
      refine x_geti X (i := 52) fl_X12_16_13 (sdM_52 hω) (ks_52 _) rfl dX12_when_21 ?_
      obtain ⟨v7, ev7, hf⟩ := nm_some hf
      refine x_nmI ev7 ?_
      refine x_istore_n X [(3, .int v7), (0, .ref (q 52)), (1, .int p0), (2, .int p1)] dX12_when_24 rfl (Nat.le_of_ble_eq_true rfl) rfl ?_
      refine x_iconst X (v := 0) dX12_when_25 (by decide) ?_
      refine x_istore X [(4, .int (0 : Int32)), (3, .int v7), (0, .ref (q 52)), (1, .int p0), (2, .int p1)] dX12_when_26 (Nat.le_of_ble_eq_true rfl) rfl ?_
      refine x_bipush X (v := -5) dX12_when_28 (by decide) ?_
      refine x_istore X [(5, .int (-5 : Int32)), (4, .int (0 : Int32)), (3, .int v7), (0, .ref (q 52)), (1, .int p0), (2, .int p1)] dX12_when_30 (Nat.le_of_ble_eq_true rfl) rfl ?_
      refine x_bipush X (v := 23) dX12_when_32 (by decide) ?_
      refine x_istore X [(6, .int (23 : Int32)), (5, .int (-5 : Int32)), (4, .int (0 : Int32)), (3, .int v7), (0, .ref (q 52)), (1, .int p0), (2, .int p1)] dX12_when_34 (Nat.le_of_ble_eq_true rfl) rfl ?_
      refine x_lv [4, 5, 6, 3, 2, 1, 0] rfl ?_
      exact k_X12_when_36 hω X R _ h _ _ _ _ _ _ hf
theorem mt_X12_when : MT yX12_when cX12_when 7 (some .int) "SignalBlindModel" 2 := ⟨(mT_6 213 rfl rfl), (mT_6 214 rfl rfl), (mT_1 10 rfl rfl), (mT_6 215 rfl rfl), by decide⟩

abbrev rm_X12_divisor : Room := { frames := 0, cells := 0, slots := 0, locals := 0 }
def f_X12_divisor_5 (h : hp) : Nat → Int32 → Int32 → Option Int32
  | 0, _, _ => none
  | n + 1, a1, a2 => (if a2 = 0 then
 (some a1)
 else
 (nz a2
 (nm (a1 - a1 / a2 * a2) fun v5 =>
 ((f_X12_divisor_5 h n) a2 v5))))
def f_X12_divisor (h : hp) (p0 : Int32) (p1 : Int32) : Option Int32 := (f_X12_divisor_5 h 2000 p0 p1)
set_option maxRecDepth 100000 in
set_option maxHeartbeats 4000000 in
theorem k_X12_divisor_5 {ω : XO} (hω : ω.2.2.2.1 = 0) {κ : XK} (X : XC ω rm_X12_divisor 6 κ cX12_divisor "SignalBlindModel") {L : List Nat} {q : Nat → Nat} {h : hp} {r : Int32} (R : XRet ω rm_X12_divisor κ (some .int) L q h (some (.int r))) : ∀ (n : Nat) (a1 : Int32) (a2 : Int32), f_X12_divisor_5 h n a1 a2 = some r → XG ω rm_X12_divisor 6 κ L q h 0 0 5 [(3, .int a1), (4, .int a2)] [] := by
  intro n
  induction n with
  | zero =>
    intro a1 a2 hf
    have hf : (none : Option Int32) = some r := hf
    cases hf
  | succ n ih =>
    intro a1 a2 hf
    rw [f_X12_divisor_5] at hf
    refine x_iload X dX12_divisor_5 1 rfl ?_
    refine x_if_eq X 26 dX12_divisor_7 (by decide) (fun c3 => ?_) (fun c3 => ?_)
    · replace hf := (if_pos c3).symm.trans hf
      refine x_iload_n X dX12_divisor_26 0 rfl rfl ?_
      exact x_retRI X R hf dX12_divisor_27
    · replace hf := (if_neg c3).symm.trans hf
      refine x_iload_n X dX12_divisor_10 0 rfl rfl ?_
      refine x_iload X dX12_divisor_11 1 rfl ?_
      obtain ⟨z4, hf⟩ := nz_some hf
      refine x_irem X dX12_divisor_13 z4 ?_
      obtain ⟨v5, ev5, hf⟩ := nm_some hf
      refine x_nmI ev5 ?_
      refine x_istore X [(5, .int v5), (3, .int a1), (4, .int a2)] dX12_divisor_14 (Nat.le_of_ble_eq_true rfl) rfl ?_
      refine x_iload X dX12_divisor_16 2 rfl ?_
      refine x_istore_n X [(3, .int a2), (5, .int v5), (4, .int a2)] dX12_divisor_18 rfl (Nat.le_of_ble_eq_true rfl) rfl ?_
      refine x_iload X dX12_divisor_19 1 rfl ?_
      refine x_istore X [(4, .int v5), (3, .int a2), (5, .int v5)] dX12_divisor_21 (Nat.le_of_ble_eq_true rfl) rfl ?_
      refine x_goto X 5 dX12_divisor_23 (by decide) ?_
      refine x_lv [1, 0] rfl ?_
      exact ih _ _ hf
set_option maxRecDepth 100000 in
set_option maxHeartbeats 4000000 in
theorem k_X12_divisor {ω : XO} (hω : ω.2.2.2.1 = 0) {L : List Nat} {q : Nat → Nat} {h : hp} {p0 : Int32} {p1 : Int32} {r : Int32} (hf : f_X12_divisor h p0 p1 = some r) : XM ω yX12_divisor cX12_divisor 6 (some .int) rm_X12_divisor L q h [.ref (q 52), .int p0, .int p1] (some (.int r)) h := by
  refine XM_intro [(0, .ref (q 52)), (1, .int p0), (2, .int p1)] "SignalBlindModel" (by decide) rfl rfl (Nat.le_of_ble_eq_true rfl) (fun κ X R => ?_)
  unfold f_X12_divisor at hf
  refine x_iload_n X dX12_divisor_0 1 rfl rfl ?_
  refine x_istore_n X [(3, .int p0), (0, .ref (q 52)), (1, .int p0), (2, .int p1)] dX12_divisor_1 rfl (Nat.le_of_ble_eq_true rfl) rfl ?_
  refine x_iload_n X dX12_divisor_2 3 rfl rfl ?_
  refine x_istore X [(4, .int p1), (3, .int p0), (0, .ref (q 52)), (1, .int p0), (2, .int p1)] dX12_divisor_3 (Nat.le_of_ble_eq_true rfl) rfl ?_
  refine x_lv [1, 0] rfl ?_
  exact k_X12_divisor_5 hω X R _ _ _ hf
theorem mt_X12_divisor : MT yX12_divisor cX12_divisor 6 (some .int) "SignalBlindModel" 2 := ⟨(mT_6 227 rfl rfl), (mTp (q := (yX12_divisor, 61)) (by decide +kernel) rfl), (mT_1 10 rfl rfl), (mT_6 228 rfl rfl), by decide⟩
theorem c_X12_321 {ω : XO} {rm : Room} {nL : Nat} {κ : XK} {cc : ByteArray} (X : XC ω rm nL κ cc "SignalBlindModel") (hω : ω.2.2.2.1 = 0) {L : List Nat} {q : Nat → Nat} {h : hp} {cells slots pc : Nat} {lv : List (Nat × Value)} {rest : List Value} {p0 : Int32} {p1 : Int32} {r : Int32} (hf : f_X12_divisor h p0 p1 = some r) (hR : rm_X12_divisor.frames + 1 ≤ rm.frames ∧ 8 + (6 + 11) + rm_X12_divisor.locals ≤ rm.locals) (hcs : cells ≤ rm.cells ∧ slots ≤ rm.slots) (hroom : (rest.map fun v => v.category).sum ≤ 8) (hd : decode cc pc = .ok (.invokevirtual 321, 3)) (kk : XG ω rm nL κ L q h cells slots (pc + 3) lv (.int r :: rest)) : XG ω rm nL κ L q h cells slots pc lv (.int p1 :: .int p0 :: .ref (q 52) :: rest) := x_callV X [.int p0, .int p1] rest (k_X12_divisor hω hf) mt_X12_divisor (mT_6 225 rfl rfl) hR ⟨rfl, rfl⟩ hcs (sdM_52 hω) (ks_52 _) (by decide) rfl rfl hroom hd kk

abbrev rm_X12_lowest : Room := { frames := 1, cells := 0, slots := 0, locals := 25 }
def f_X12_lowest_25 (h : hp) (a5 : Int64) : Option Int64 := (some a5)
def f_X12_lowest (h : hp) (p0 : Int32) (p1 : Int32) (p2 : Int32) : Option Int64 := (bnr (f_X12_divisor h p0 p1) fun r1 =>
 (if p2 = 0 then
 (nz r1
 (f_X12_lowest_25 h (((p0 / r1)).toInt64)))
 else
 (nz r1
 (f_X12_lowest_25 h (((p1 / r1)).toInt64)))))
set_option maxRecDepth 100000 in
set_option maxHeartbeats 4000000 in
theorem k_X12_lowest_25 {ω : XO} (hω : ω.2.2.2.1 = 0) {κ : XK} (X : XC ω rm_X12_lowest 5 κ cX12_lowest "SignalBlindModel") {L : List Nat} {q : Nat → Nat} {h : hp} {r : Int64} (R : XRet ω rm_X12_lowest κ (some .long) L q h (some (.long r))) : ∀ (a5 : Int64), f_X12_lowest_25 h a5 = some r → XG ω rm_X12_lowest 5 κ L q h 0 0 25 [] [.long a5] := by
  intro a5 hf
  unfold f_X12_lowest_25 at hf
  exact x_retRL X R hf dX12_lowest_25
set_option maxRecDepth 100000 in
set_option maxHeartbeats 4000000 in
theorem k_X12_lowest {ω : XO} (hω : ω.2.2.2.1 = 0) {L : List Nat} {q : Nat → Nat} {h : hp} {p0 : Int32} {p1 : Int32} {p2 : Int32} {r : Int64} (hf : f_X12_lowest h p0 p1 p2 = some r) : XM ω yX12_lowest cX12_lowest 5 (some .long) rm_X12_lowest L q h [.ref (q 52), .int p0, .int p1, .int p2] (some (.long r)) h := by
  refine XM_intro [(0, .ref (q 52)), (1, .int p0), (2, .int p1), (3, .int p2)] "SignalBlindModel" (by decide) rfl rfl (Nat.le_of_ble_eq_true rfl) (fun κ X R => ?_)
  unfold f_X12_lowest at hf
  refine x_aload_n X dX12_lowest_0 0 rfl rfl ?_
  refine x_iload_n X dX12_lowest_1 1 rfl rfl ?_
  refine x_iload_n X dX12_lowest_2 2 rfl rfl ?_
  obtain ⟨r1, g2, hf⟩ := bnr_some hf
  refine c_X12_321 X hω g2 (hR := ⟨Nat.le_of_ble_eq_true rfl, Nat.le_of_ble_eq_true rfl⟩) ⟨Nat.zero_le _, Nat.zero_le _⟩ (Nat.le_of_ble_eq_true rfl) dX12_lowest_3 ?_
  refine x_istore X [(4, .int r1), (0, .ref (q 52)), (1, .int p0), (2, .int p1), (3, .int p2)] dX12_lowest_6 (Nat.le_of_ble_eq_true rfl) rfl ?_
  refine x_iload_n X dX12_lowest_8 4 rfl rfl ?_
  refine x_if_ne X 20 dX12_lowest_9 (by decide) (fun c3 => ?_) (fun c3 => ?_)
  · replace hf := (if_pos c3).symm.trans hf
    refine x_iload_n X dX12_lowest_12 2 rfl rfl ?_
    refine x_iload X dX12_lowest_13 0 rfl ?_
    obtain ⟨z4, hf⟩ := nz_some hf
    refine x_idiv X dX12_lowest_15 z4 ?_
    refine x_i2l X dX12_lowest_16 ?_
    refine x_goto X 25 dX12_lowest_17 (by decide) ?_
    refine x_lv [] rfl ?_
    exact k_X12_lowest_25 hω X R _ hf
  · replace hf := (if_neg c3).symm.trans hf
    refine x_iload_n X dX12_lowest_20 3 rfl rfl ?_
    refine x_iload X dX12_lowest_21 0 rfl ?_
    obtain ⟨z6, hf⟩ := nz_some hf
    refine x_idiv X dX12_lowest_23 z6 ?_
    refine x_i2l X dX12_lowest_24 ?_
    refine x_lv [] rfl ?_
    exact k_X12_lowest_25 hω X R _ hf
theorem mt_X12_lowest : MT yX12_lowest cX12_lowest 5 (some .long) "SignalBlindModel" 3 := ⟨(mT_6 223 rfl rfl), (mTp (q := (yX12_lowest, 61)) (by decide +kernel) rfl), (mT_1 10 rfl rfl), (mT_6 224 rfl rfl), by decide⟩
theorem c_X12_326 {ω : XO} {rm : Room} {nL : Nat} {κ : XK} {cc : ByteArray} (X : XC ω rm nL κ cc "SignalBlindModel") (hω : ω.2.2.2.1 = 0) {L : List Nat} {q : Nat → Nat} {h : hp} {cells slots pc : Nat} {lv : List (Nat × Value)} {rest : List Value} {p0 : Int32} {p1 : Int32} {p2 : Int32} {r : Int64} (hf : f_X12_lowest h p0 p1 p2 = some r) (hR : rm_X12_lowest.frames + 1 ≤ rm.frames ∧ 8 + (5 + 11) + rm_X12_lowest.locals ≤ rm.locals) (hcs : cells ≤ rm.cells ∧ slots ≤ rm.slots) (hroom : (rest.map fun v => v.category).sum ≤ 8) (hd : decode cc pc = .ok (.invokevirtual 326, 3)) (kk : XG ω rm nL κ L q h cells slots (pc + 3) lv (.long r :: rest)) : XG ω rm nL κ L q h cells slots pc lv (.int p2 :: .int p1 :: .int p0 :: .ref (q 52) :: rest) := x_callV X [.int p0, .int p1, .int p2] rest (k_X12_lowest hω hf) mt_X12_lowest (mT_6 221 rfl rfl) hR ⟨rfl, rfl⟩ hcs (sdM_52 hω) (ks_52 _) (by decide) rfl rfl hroom hd kk

abbrev rm_X12_odds : Room := { frames := 6, cells := 0, slots := 0, locals := 144 }
def f_X12_odds_26 (h : hp) : Option (hp × Int64) := (some (h, (-9223372036854775808 : Int64)))
def f_X12_odds_78 (k49 : hp → Int32 → Int32 → Int32 → Int32 → Int32 → Option (hp × Int64)) (h : hp) (a23 : Int32) (a24 : Int32) (a25 : Int32) (a26 : Int32) (a27 : Int32) (a28 : Int32) : Option (hp × Int64) := (nm (a28 + a27) fun v29 =>
 (nm (a26 + (1 : Int32)) fun v30 =>
 (k49 h a23 a24 a25 v29 v30)))
def f_X12_odds_49 : Nat → hp → Int32 → Int32 → Int32 → Int32 → Int32 → Option (hp × Int64)
  | 0, _, _, _, _, _, _ => none
  | n + 1, h, a14, a15, a16, a17, a18 => (if a18 < (10 : Int32) then
 (bnr (f_X12_readOf h (a16 ^^^ ((1 : Int32) <<< (a18 &&& 31)))) fun r20 =>
 (if r20 = a14 then
 (f_X12_odds_78 (f_X12_odds_49 n) h a14 a15 a16 a18 (1 : Int32) a17)
 else
 (f_X12_odds_78 (f_X12_odds_49 n) h a14 a15 a16 a18 (0 : Int32) a17)))
 else
 (bnr (f_X12_lowest h a17 (10 : Int32) a15) fun r31 =>
 (some (h, r31))))
def f_X12_odds (h : hp) (p0 : Int32) (p1 : Int32) (p2 : Int32) : Option (hp × Int64) := (bnr (f_X12_isSender h p0) fun r1 =>
 (if r1 = 0 then
 (f_X12_odds_26 h)
 else
 (bnr (f_X12_isWord h p1) fun r4 =>
 (if r4 = 0 then
 (f_X12_odds_26 h)
 else
 (bnr (f_X12_in h p2 (0 : Int32) (1 : Int32)) fun r7 =>
 (if r7 = 0 then
 (f_X12_odds_26 h)
 else
 (chk p1 8
 (bnd (f_X12_showsOf h p0 (aI h 53 (p1).toNatClampNeg)) fun h11 r12 =>
 (f_X12_odds_49 2000 h11 p1 p2 r12 (0 : Int32) (0 : Int32))))))))))
set_option maxRecDepth 100000 in
set_option maxHeartbeats 4000000 in
theorem k_X12_odds_26 {ω : XO} (hω : ω.2.2.2.1 = 0) {κ : XK} (X : XC ω rm_X12_odds 7 κ cX12_odds "SignalBlindModel") {L : List Nat} {q : Nat → Nat} {h' : hp} {r : Int64} (R : XRet ω rm_X12_odds κ (some .long) L q h' (some (.long r))) : ∀ (h : hp), f_X12_odds_26 h = some (h', r) → XG ω rm_X12_odds 7 κ L q h 0 0 26 [] [] := by
  intro h hf
  unfold f_X12_odds_26 at hf
  refine x_ldc2 X (v := -9223372036854775808) (mT_6 220 rfl rfl) dX12_odds_26 ?_
  exact x_retSL X R hf dX12_odds_29
set_option maxRecDepth 100000 in
set_option maxHeartbeats 4000000 in
theorem k_X12_odds_78 {ω : XO} (hω : ω.2.2.2.1 = 0) {κ : XK} (X : XC ω rm_X12_odds 7 κ cX12_odds "SignalBlindModel") {L : List Nat} {q : Nat → Nat} {h' : hp} {r : Int64} (R : XRet ω rm_X12_odds κ (some .long) L q h' (some (.long r))) (k49 : hp → Int32 → Int32 → Int32 → Int32 → Int32 → Option (hp × Int64)) (hk49 : ∀ (h : hp) (a14 : Int32) (a15 : Int32) (a16 : Int32) (a17 : Int32) (a18 : Int32), k49 h a14 a15 a16 a17 a18 = some (h', r) → XG ω rm_X12_odds 7 κ L q h 0 0 49 [(0, .ref (q 52)), (2, .int a14), (3, .int a15), (4, .int a16), (5, .int a17), (6, .int a18)] []) : ∀ (h : hp) (a23 : Int32) (a24 : Int32) (a25 : Int32) (a26 : Int32) (a27 : Int32) (a28 : Int32), f_X12_odds_78 k49 h a23 a24 a25 a26 a27 a28 = some (h', r) → XG ω rm_X12_odds 7 κ L q h 0 0 78 [(0, .ref (q 52)), (2, .int a23), (3, .int a24), (4, .int a25), (6, .int a26)] [.int a27, .int a28] := by
  intro h a23 a24 a25 a26 a27 a28 hf
  unfold f_X12_odds_78 at hf
  refine x_iadd X dX12_odds_78 ?_
  obtain ⟨v29, ev29, hf⟩ := nm_some hf
  refine x_nmI ev29 ?_
  refine x_istore X [(5, .int v29), (0, .ref (q 52)), (2, .int a23), (3, .int a24), (4, .int a25), (6, .int a26)] dX12_odds_79 (Nat.le_of_ble_eq_true rfl) rfl ?_
  obtain ⟨v30, ev30, hf⟩ := nm_some hf
  refine x_iincN X (v := 1) ev30 [(6, .int v30), (5, .int v29), (0, .ref (q 52)), (2, .int a23), (3, .int a24), (4, .int a25)] dX12_odds_81 5 rfl (by decide) (Nat.le_of_ble_eq_true rfl) rfl ?_
  refine x_goto X 49 dX12_odds_84 (by decide) ?_
  refine x_lv [2, 3, 4, 5, 1, 0] rfl ?_
  exact hk49 h _ _ _ _ _ hf
set_option maxRecDepth 100000 in
set_option maxHeartbeats 4000000 in
theorem k_X12_odds_49 {ω : XO} (hω : ω.2.2.2.1 = 0) {κ : XK} (X : XC ω rm_X12_odds 7 κ cX12_odds "SignalBlindModel") {L : List Nat} {q : Nat → Nat} {h' : hp} {r : Int64} (R : XRet ω rm_X12_odds κ (some .long) L q h' (some (.long r))) : ∀ (n : Nat) (h : hp) (a14 : Int32) (a15 : Int32) (a16 : Int32) (a17 : Int32) (a18 : Int32), f_X12_odds_49 n h a14 a15 a16 a17 a18 = some (h', r) → XG ω rm_X12_odds 7 κ L q h 0 0 49 [(0, .ref (q 52)), (2, .int a14), (3, .int a15), (4, .int a16), (5, .int a17), (6, .int a18)] [] := by
  intro n
  induction n with
  | zero =>
    intro h a14 a15 a16 a17 a18 hf
    have hf : (none : Option (hp × Int64)) = some (h', r) := hf
    cases hf
  | succ n ih =>
    intro h a14 a15 a16 a17 a18 hf
    rw [f_X12_odds_49] at hf
    refine x_iload X dX12_odds_49 5 rfl ?_
    refine x_bipush X (v := 10) dX12_odds_51 (by decide) ?_
    refine x_icmp_ge X 87 dX12_odds_53 (by decide) (fun c19 => ?_) (fun c19 => ?_)
    · replace hf := (if_pos c19).symm.trans hf
      refine x_iload X dX12_odds_56 4 rfl ?_
      refine x_aload_n X dX12_odds_58 0 rfl rfl ?_
      refine x_iload X dX12_odds_59 3 rfl ?_
      refine x_iconst X (v := 1) dX12_odds_61 (by decide) ?_
      refine x_iload X dX12_odds_62 5 rfl ?_
      refine x_ishl X dX12_odds_64 ?_
      refine x_ixor X dX12_odds_65 ?_
      obtain ⟨r20, g21, hf⟩ := bnr_some hf
      refine c_X12_293 X hω g21 (hR := ⟨Nat.le_of_ble_eq_true rfl, Nat.le_of_ble_eq_true rfl⟩) ⟨Nat.zero_le _, Nat.zero_le _⟩ (Nat.le_of_ble_eq_true rfl) dX12_odds_66 ?_
      refine x_iload_n X dX12_odds_69 1 rfl rfl ?_
      refine x_icmp_ne X 77 dX12_odds_70 (by decide) (fun c22 => ?_) (fun c22 => ?_)
      · replace hf := (if_pos c22).symm.trans hf
        refine x_iconst X (v := 1) dX12_odds_73 (by decide) ?_
        refine x_goto X 78 dX12_odds_74 (by decide) ?_
        refine x_lv [0, 1, 2, 3, 5] rfl ?_
        exact k_X12_odds_78 hω X R _ ih h _ _ _ _ _ _ hf
      · replace hf := (if_neg c22).symm.trans hf
        refine x_iconst X (v := 0) dX12_odds_77 (by decide) ?_
        refine x_lv [0, 1, 2, 3, 5] rfl ?_
        exact k_X12_odds_78 hω X R _ ih h _ _ _ _ _ _ hf
    · replace hf := (if_neg c19).symm.trans hf
      refine x_aload_n X dX12_odds_87 0 rfl rfl ?_
      refine x_iload X dX12_odds_88 4 rfl ?_
      refine x_bipush X (v := 10) dX12_odds_90 (by decide) ?_
      refine x_iload_n X dX12_odds_92 2 rfl rfl ?_
      obtain ⟨r31, g32, hf⟩ := bnr_some hf
      refine c_X12_326 X hω g32 (hR := ⟨Nat.le_of_ble_eq_true rfl, Nat.le_of_ble_eq_true rfl⟩) ⟨Nat.zero_le _, Nat.zero_le _⟩ (Nat.le_of_ble_eq_true rfl) dX12_odds_93 ?_
      exact x_retSL X R hf dX12_odds_96
set_option maxRecDepth 100000 in
set_option maxHeartbeats 4000000 in
theorem k_X12_odds {ω : XO} (hω : ω.2.2.2.1 = 0) {L : List Nat} {q : Nat → Nat} {h h' : hp} {p0 : Int32} {p1 : Int32} {p2 : Int32} {r : Int64} (hf : f_X12_odds h p0 p1 p2 = some (h', r)) : XM ω yX12_odds cX12_odds 7 (some .long) rm_X12_odds L q h [.ref (q 52), .int p0, .int p1, .int p2] (some (.long r)) h' := by
  refine XM_intro [(0, .ref (q 52)), (1, .int p0), (2, .int p1), (3, .int p2)] "SignalBlindModel" (by decide) rfl rfl (Nat.le_of_ble_eq_true rfl) (fun κ X R => ?_)
  unfold f_X12_odds at hf
  refine x_aload_n X dX12_odds_0 0 rfl rfl ?_
  refine x_iload_n X dX12_odds_1 1 rfl rfl ?_
  obtain ⟨r1, g2, hf⟩ := bnr_some hf
  refine c_X12_212 X hω g2 (hR := ⟨Nat.le_of_ble_eq_true rfl, Nat.le_of_ble_eq_true rfl⟩) ⟨Nat.zero_le _, Nat.zero_le _⟩ (Nat.le_of_ble_eq_true rfl) dX12_odds_2 ?_
  refine x_if_eq X 26 dX12_odds_5 (by decide) (fun c3 => ?_) (fun c3 => ?_)
  · replace hf := (if_pos c3).symm.trans hf
    refine x_lv [] rfl ?_
    exact k_X12_odds_26 hω X R h hf
  · replace hf := (if_neg c3).symm.trans hf
    refine x_aload_n X dX12_odds_8 0 rfl rfl ?_
    refine x_iload_n X dX12_odds_9 2 rfl rfl ?_
    obtain ⟨r4, g5, hf⟩ := bnr_some hf
    refine c_X12_209 X hω g5 (hR := ⟨Nat.le_of_ble_eq_true rfl, Nat.le_of_ble_eq_true rfl⟩) ⟨Nat.zero_le _, Nat.zero_le _⟩ (Nat.le_of_ble_eq_true rfl) dX12_odds_10 ?_
    refine x_if_eq X 26 dX12_odds_13 (by decide) (fun c6 => ?_) (fun c6 => ?_)
    · replace hf := (if_pos c6).symm.trans hf
      refine x_lv [] rfl ?_
      exact k_X12_odds_26 hω X R h hf
    · replace hf := (if_neg c6).symm.trans hf
      refine x_aload_n X dX12_odds_16 0 rfl rfl ?_
      refine x_iload_n X dX12_odds_17 3 rfl rfl ?_
      refine x_iconst X (v := 0) dX12_odds_18 (by decide) ?_
      refine x_iconst X (v := 1) dX12_odds_19 (by decide) ?_
      obtain ⟨r7, g8, hf⟩ := bnr_some hf
      refine c_X12_201 X hω g8 (hR := ⟨Nat.le_of_ble_eq_true rfl, Nat.le_of_ble_eq_true rfl⟩) ⟨Nat.zero_le _, Nat.zero_le _⟩ (Nat.le_of_ble_eq_true rfl) dX12_odds_20 ?_
      refine x_if_ne X 30 dX12_odds_23 (by decide) (fun c9 => ?_) (fun c9 => ?_)
      · replace hf := (if_pos c9).symm.trans hf
        refine x_lv [] rfl ?_
        exact k_X12_odds_26 hω X R h hf
      · replace hf := (if_neg c9).symm.trans hf
        refine x_aload_n X dX12_odds_30 0 rfl rfl ?_
        refine x_iload_n X dX12_odds_31 1 rfl rfl ?_
        refine x_aload_n X dX12_odds_32 0 rfl rfl ?_
        refine x_getsj X (i := 52) 1 fl_X12_19_13 (sdM_52 hω) (ks_52 _) rfl (j := 53) rfl dX12_odds_33 ?_
        refine x_iload_n X dX12_odds_36 2 rfl rfl ?_
        obtain ⟨z10, hf⟩ := chk_some hf
        refine x_iald X (i := 53) (n := 8) (sdM_53 hω) (ks_53 _) z10 dX12_odds_37 ?_
        obtain ⟨h11, r12, g13, hf⟩ := bnd_some hf
        refine c_X12_290 X hω g13 (hR := ⟨Nat.le_of_ble_eq_true rfl, Nat.le_of_ble_eq_true rfl⟩) ⟨Nat.zero_le _, Nat.zero_le _⟩ (Nat.le_of_ble_eq_true rfl) dX12_odds_38 ?_
        refine x_istore X [(4, .int r12), (0, .ref (q 52)), (1, .int p0), (2, .int p1), (3, .int p2)] dX12_odds_41 (Nat.le_of_ble_eq_true rfl) rfl ?_
        refine x_iconst X (v := 0) dX12_odds_43 (by decide) ?_
        refine x_istore X [(5, .int (0 : Int32)), (4, .int r12), (0, .ref (q 52)), (1, .int p0), (2, .int p1), (3, .int p2)] dX12_odds_44 (Nat.le_of_ble_eq_true rfl) rfl ?_
        refine x_iconst X (v := 0) dX12_odds_46 (by decide) ?_
        refine x_istore X [(6, .int (0 : Int32)), (5, .int (0 : Int32)), (4, .int r12), (0, .ref (q 52)), (1, .int p0), (2, .int p1), (3, .int p2)] dX12_odds_47 (Nat.le_of_ble_eq_true rfl) rfl ?_
        refine x_lv [3, 5, 6, 2, 1, 0] rfl ?_
        exact k_X12_odds_49 hω X R _ h11 _ _ _ _ _ hf
theorem mt_X12_odds : MT yX12_odds cX12_odds 7 (some .long) "SignalBlindModel" 3 := ⟨(mT_6 217 rfl rfl), (mT_6 218 rfl rfl), (mT_1 10 rfl rfl), (mT_6 219 rfl rfl), by decide⟩

abbrev rm_X12_mean : Room := { frames := 2, cells := 0, slots := 0, locals := 49 }
def f_X12_mean_17 (h : hp) : Option Int64 := (some (-9223372036854775808 : Int64))
def f_X12_mean_25 (h : hp) : Nat → Int32 → Int32 → Int32 → Option Int64
  | 0, _, _, _ => none
  | n + 1, a5, a6, a7 => (if a7 < (hI h 52 0) then
 (chk a7 8
 (bnr (f_X12_bits h (aI h 53 (a7).toNatClampNeg)) fun r10 =>
 (nm (a6 + r10) fun v12 =>
 (nm (a7 + (1 : Int32)) fun v13 =>
 ((f_X12_mean_25 h n) a5 v12 v13)))))
 else
 (bnr (f_X12_lowest h a6 (hI h 52 0) a5) fun r14 =>
 (some r14)))
def f_X12_mean (h : hp) (p0 : Int32) : Option Int64 := (bnr (f_X12_in h p0 (0 : Int32) (1 : Int32)) fun r1 =>
 (if r1 = 0 then
 (f_X12_mean_17 h)
 else
 (if (hI h 52 0) = 0 then
 (f_X12_mean_17 h)
 else
 (f_X12_mean_25 h 2000 p0 (0 : Int32) (0 : Int32)))))
set_option maxRecDepth 100000 in
set_option maxHeartbeats 4000000 in
theorem k_X12_mean_17 {ω : XO} (hω : ω.2.2.2.1 = 0) {κ : XK} (X : XC ω rm_X12_mean 4 κ cX12_mean "SignalBlindModel") {L : List Nat} {q : Nat → Nat} {h : hp} {r : Int64} (R : XRet ω rm_X12_mean κ (some .long) L q h (some (.long r))) : f_X12_mean_17 h = some r → XG ω rm_X12_mean 4 κ L q h 0 0 17 [] [] := by
  intro  hf
  unfold f_X12_mean_17 at hf
  refine x_ldc2 X (v := -9223372036854775808) (mT_6 220 rfl rfl) dX12_mean_17 ?_
  exact x_retRL X R hf dX12_mean_20
set_option maxRecDepth 100000 in
set_option maxHeartbeats 4000000 in
theorem k_X12_mean_25 {ω : XO} (hω : ω.2.2.2.1 = 0) {κ : XK} (X : XC ω rm_X12_mean 4 κ cX12_mean "SignalBlindModel") {L : List Nat} {q : Nat → Nat} {h : hp} {r : Int64} (R : XRet ω rm_X12_mean κ (some .long) L q h (some (.long r))) : ∀ (n : Nat) (a5 : Int32) (a6 : Int32) (a7 : Int32), f_X12_mean_25 h n a5 a6 a7 = some r → XG ω rm_X12_mean 4 κ L q h 0 0 25 [(0, .ref (q 52)), (1, .int a5), (2, .int a6), (3, .int a7)] [] := by
  intro n
  induction n with
  | zero =>
    intro a5 a6 a7 hf
    have hf : (none : Option Int64) = some r := hf
    cases hf
  | succ n ih =>
    intro a5 a6 a7 hf
    rw [f_X12_mean_25] at hf
    refine x_iload_n X dX12_mean_25 3 rfl rfl ?_
    refine x_aload_n X dX12_mean_26 0 rfl rfl ?_
    refine x_geti X (i := 52) fl_X12_7_13 (sdM_52 hω) (ks_52 _) rfl dX12_mean_27 ?_
    refine x_icmp_ge X 52 dX12_mean_30 (by decide) (fun c8 => ?_) (fun c8 => ?_)
    · replace hf := (if_pos c8).symm.trans hf
      refine x_iload_n X dX12_mean_33 2 rfl rfl ?_
      refine x_aload_n X dX12_mean_34 0 rfl rfl ?_
      refine x_aload_n X dX12_mean_35 0 rfl rfl ?_
      refine x_getsj X (i := 52) 1 fl_X12_19_13 (sdM_52 hω) (ks_52 _) rfl (j := 53) rfl dX12_mean_36 ?_
      refine x_iload_n X dX12_mean_39 3 rfl rfl ?_
      obtain ⟨z9, hf⟩ := chk_some hf
      refine x_iald X (i := 53) (n := 8) (sdM_53 hω) (ks_53 _) z9 dX12_mean_40 ?_
      obtain ⟨r10, g11, hf⟩ := bnr_some hf
      refine c_X12_267 X hω g11 (hR := ⟨Nat.le_of_ble_eq_true rfl, Nat.le_of_ble_eq_true rfl⟩) ⟨Nat.zero_le _, Nat.zero_le _⟩ (Nat.le_of_ble_eq_true rfl) dX12_mean_41 ?_
      refine x_iadd X dX12_mean_44 ?_
      obtain ⟨v12, ev12, hf⟩ := nm_some hf
      refine x_nmI ev12 ?_
      refine x_istore_n X [(2, .int v12), (0, .ref (q 52)), (1, .int a5), (3, .int a7)] dX12_mean_45 rfl (Nat.le_of_ble_eq_true rfl) rfl ?_
      obtain ⟨v13, ev13, hf⟩ := nm_some hf
      refine x_iincN X (v := 1) ev13 [(3, .int v13), (2, .int v12), (0, .ref (q 52)), (1, .int a5)] dX12_mean_46 3 rfl (by decide) (Nat.le_of_ble_eq_true rfl) rfl ?_
      refine x_goto X 25 dX12_mean_49 (by decide) ?_
      refine x_lv [2, 3, 1, 0] rfl ?_
      exact ih _ _ _ hf
    · replace hf := (if_neg c8).symm.trans hf
      refine x_aload_n X dX12_mean_52 0 rfl rfl ?_
      refine x_iload_n X dX12_mean_53 2 rfl rfl ?_
      refine x_aload_n X dX12_mean_54 0 rfl rfl ?_
      refine x_geti X (i := 52) fl_X12_7_13 (sdM_52 hω) (ks_52 _) rfl dX12_mean_55 ?_
      refine x_iload_n X dX12_mean_58 1 rfl rfl ?_
      obtain ⟨r14, g15, hf⟩ := bnr_some hf
      refine c_X12_326 X hω g15 (hR := ⟨Nat.le_of_ble_eq_true rfl, Nat.le_of_ble_eq_true rfl⟩) ⟨Nat.zero_le _, Nat.zero_le _⟩ (Nat.le_of_ble_eq_true rfl) dX12_mean_59 ?_
      exact x_retRL X R hf dX12_mean_62
set_option maxRecDepth 100000 in
set_option maxHeartbeats 4000000 in
theorem k_X12_mean {ω : XO} (hω : ω.2.2.2.1 = 0) {L : List Nat} {q : Nat → Nat} {h : hp} {p0 : Int32} {r : Int64} (hf : f_X12_mean h p0 = some r) : XM ω yX12_mean cX12_mean 4 (some .long) rm_X12_mean L q h [.ref (q 52), .int p0] (some (.long r)) h := by
  refine XM_intro [(0, .ref (q 52)), (1, .int p0)] "SignalBlindModel" (by decide) rfl rfl (Nat.le_of_ble_eq_true rfl) (fun κ X R => ?_)
  unfold f_X12_mean at hf
  refine x_aload_n X dX12_mean_0 0 rfl rfl ?_
  refine x_iload_n X dX12_mean_1 1 rfl rfl ?_
  refine x_iconst X (v := 0) dX12_mean_2 (by decide) ?_
  refine x_iconst X (v := 1) dX12_mean_3 (by decide) ?_
  obtain ⟨r1, g2, hf⟩ := bnr_some hf
  refine c_X12_201 X hω g2 (hR := ⟨Nat.le_of_ble_eq_true rfl, Nat.le_of_ble_eq_true rfl⟩) ⟨Nat.zero_le _, Nat.zero_le _⟩ (Nat.le_of_ble_eq_true rfl) dX12_mean_4 ?_
  refine x_if_eq X 17 dX12_mean_7 (by decide) (fun c3 => ?_) (fun c3 => ?_)
  · replace hf := (if_pos c3).symm.trans hf
    refine x_lv [] rfl ?_
    exact k_X12_mean_17 hω X R  hf
  · replace hf := (if_neg c3).symm.trans hf
    refine x_aload_n X dX12_mean_10 0 rfl rfl ?_
    refine x_geti X (i := 52) fl_X12_7_13 (sdM_52 hω) (ks_52 _) rfl dX12_mean_11 ?_
    refine x_if_ne X 21 dX12_mean_14 (by decide) (fun c4 => ?_) (fun c4 => ?_)
    · replace hf := (if_pos c4).symm.trans hf
      refine x_lv [] rfl ?_
      exact k_X12_mean_17 hω X R  hf
    · replace hf := (if_neg c4).symm.trans hf
      refine x_iconst X (v := 0) dX12_mean_21 (by decide) ?_
      refine x_istore_n X [(2, .int (0 : Int32)), (0, .ref (q 52)), (1, .int p0)] dX12_mean_22 rfl (Nat.le_of_ble_eq_true rfl) rfl ?_
      refine x_iconst X (v := 0) dX12_mean_23 (by decide) ?_
      refine x_istore_n X [(3, .int (0 : Int32)), (2, .int (0 : Int32)), (0, .ref (q 52)), (1, .int p0)] dX12_mean_24 rfl (Nat.le_of_ble_eq_true rfl) rfl ?_
      refine x_lv [2, 3, 1, 0] rfl ?_
      exact k_X12_mean_25 hω X R _ _ _ _ hf
theorem mt_X12_mean : MT yX12_mean cX12_mean 4 (some .long) "SignalBlindModel" 1 := ⟨(mT_6 230 rfl rfl), (mT_6 231 rfl rfl), (mT_1 10 rfl rfl), (mT_6 232 rfl rfl), by decide⟩

abbrev rm_X12_relay : Room := { frames := 2, cells := 0, slots := 0, locals := 44 }
def f_X12_relay_27 (h : hp) (a4 : Int32) : Option (hp × Int32) := (if (hI h 52 32) = (8 : Int32) then
 (some (h, (-4 : Int32)))
 else
 (chk (hI h 52 32) 8
 (nm (tI h 73 ((hI h 52 32)).toNatClampNeg a4) fun h7 =>
 (nm (sI h7 52 32 ((hI h7 52 32) + (1 : Int32))) fun h8 =>
 (some (h8, (hI h8 52 32)))))))
def f_X12_relay (h : hp) (p0 : Int32) : Option (hp × Int32) := (if p0 = (-1 : Int32) then
 (nm (sI h 52 32 (0 : Int32)) fun h2 =>
 (some (h2, (0 : Int32))))
 else
 (if p0 = (5 : Int32) then
 (f_X12_relay_27 h p0)
 else
 (bnr (f_X12_isSender h p0) fun r9 =>
 (if r9 = 0 then
 (some (h, (-1 : Int32)))
 else
 (f_X12_relay_27 h p0)))))
set_option maxRecDepth 100000 in
set_option maxHeartbeats 4000000 in
theorem k_X12_relay_27 {ω : XO} (hω : ω.2.2.2.1 = 0) {κ : XK} (X : XC ω rm_X12_relay 2 κ cX12_relay "SignalBlindModel") {L : List Nat} {q : Nat → Nat} {h' : hp} {r : Int32} (R : XRet ω rm_X12_relay κ (some .int) L q h' (some (.int r))) : ∀ (h : hp) (a4 : Int32), f_X12_relay_27 h a4 = some (h', r) → XG ω rm_X12_relay 2 κ L q h 0 0 27 [(0, .ref (q 52)), (1, .int a4)] [] := by
  intro h a4 hf
  unfold f_X12_relay_27 at hf
  refine x_aload_n X dX12_relay_27 0 rfl rfl ?_
  refine x_geti X (i := 52) fl_X12_108_13 (sdM_52 hω) (ks_52 _) rfl dX12_relay_28 ?_
  refine x_bipush X (v := 8) dX12_relay_31 (by decide) ?_
  refine x_icmp_ne X 39 dX12_relay_33 (by decide) (fun c5 => ?_) (fun c5 => ?_)
  · replace hf := (if_pos c5).symm.trans hf
    refine x_bipush X (v := -4) dX12_relay_36 (by decide) ?_
    exact x_retSI X R hf dX12_relay_38
  · replace hf := (if_neg c5).symm.trans hf
    refine x_aload_n X dX12_relay_39 0 rfl rfl ?_
    refine x_getsj X (i := 52) 21 fl_X12_114_13 (sdM_52 hω) (ks_52 _) rfl (j := 73) rfl dX12_relay_40 ?_
    refine x_aload_n X dX12_relay_43 0 rfl rfl ?_
    refine x_geti X (i := 52) fl_X12_108_13 (sdM_52 hω) (ks_52 _) rfl dX12_relay_44 ?_
    refine x_iload_n X dX12_relay_47 1 rfl rfl ?_
    obtain ⟨z6, hf⟩ := chk_some hf
    refine x_iast X (i := 73) (n := 8) (sdM_73 hω) (ks_73 _) z6 dX12_relay_48 ?_
    obtain ⟨h7, eh7, hf⟩ := nm_some hf
    refine x_nmh eh7 ?_
    refine x_aload_n X dX12_relay_49 0 rfl rfl ?_
    refine x_dup X dX12_relay_50 rfl ?_
    refine x_geti X (i := 52) fl_X12_108_13 (sdM_52 hω) (ks_52 _) rfl dX12_relay_51 ?_
    refine x_iconst X (v := 1) dX12_relay_54 (by decide) ?_
    refine x_iadd X dX12_relay_55 ?_
    refine x_puti X (i := 52) fl_X12_108_13 fw_13 (sdM_52 hω) (ks_52 _) rfl rfl rfl rfl dX12_relay_56 ?_
    obtain ⟨h8, eh8, hf⟩ := nm_some hf
    refine x_nmh eh8 ?_
    refine x_aload_n X dX12_relay_59 0 rfl rfl ?_
    refine x_geti X (i := 52) fl_X12_108_13 (sdM_52 hω) (ks_52 _) rfl dX12_relay_60 ?_
    exact x_retSI X R hf dX12_relay_63
set_option maxRecDepth 100000 in
set_option maxHeartbeats 4000000 in
theorem k_X12_relay {ω : XO} (hω : ω.2.2.2.1 = 0) {L : List Nat} {q : Nat → Nat} {h h' : hp} {p0 : Int32} {r : Int32} (hf : f_X12_relay h p0 = some (h', r)) : XM ω yX12_relay cX12_relay 2 (some .int) rm_X12_relay L q h [.ref (q 52), .int p0] (some (.int r)) h' := by
  refine XM_intro [(0, .ref (q 52)), (1, .int p0)] "SignalBlindModel" (by decide) rfl rfl (Nat.le_of_ble_eq_true rfl) (fun κ X R => ?_)
  unfold f_X12_relay at hf
  refine x_iload_n X dX12_relay_0 1 rfl rfl ?_
  refine x_iconst X (v := -1) dX12_relay_1 (by decide) ?_
  refine x_icmp_ne X 12 dX12_relay_2 (by decide) (fun c1 => ?_) (fun c1 => ?_)
  · replace hf := (if_pos c1).symm.trans hf
    refine x_aload_n X dX12_relay_5 0 rfl rfl ?_
    refine x_iconst X (v := 0) dX12_relay_6 (by decide) ?_
    refine x_puti X (i := 52) fl_X12_108_13 fw_13 (sdM_52 hω) (ks_52 _) rfl rfl rfl rfl dX12_relay_7 ?_
    obtain ⟨h2, eh2, hf⟩ := nm_some hf
    refine x_nmh eh2 ?_
    refine x_iconst X (v := 0) dX12_relay_10 (by decide) ?_
    exact x_retSI X R hf dX12_relay_11
  · replace hf := (if_neg c1).symm.trans hf
    refine x_iload_n X dX12_relay_12 1 rfl rfl ?_
    refine x_iconst X (v := 5) dX12_relay_13 (by decide) ?_
    refine x_icmp_eq X 27 dX12_relay_14 (by decide) (fun c3 => ?_) (fun c3 => ?_)
    · replace hf := (if_pos c3).symm.trans hf
      refine x_lv [0, 1] rfl ?_
      exact k_X12_relay_27 hω X R h _ hf
    · replace hf := (if_neg c3).symm.trans hf
      refine x_aload_n X dX12_relay_17 0 rfl rfl ?_
      refine x_iload_n X dX12_relay_18 1 rfl rfl ?_
      obtain ⟨r9, g10, hf⟩ := bnr_some hf
      refine c_X12_212 X hω g10 (hR := ⟨Nat.le_of_ble_eq_true rfl, Nat.le_of_ble_eq_true rfl⟩) ⟨Nat.zero_le _, Nat.zero_le _⟩ (Nat.le_of_ble_eq_true rfl) dX12_relay_19 ?_
      refine x_if_ne X 27 dX12_relay_22 (by decide) (fun c11 => ?_) (fun c11 => ?_)
      · replace hf := (if_pos c11).symm.trans hf
        refine x_iconst X (v := -1) dX12_relay_25 (by decide) ?_
        exact x_retSI X R hf dX12_relay_26
      · replace hf := (if_neg c11).symm.trans hf
        refine x_lv [0, 1] rfl ?_
        exact k_X12_relay_27 hω X R h _ hf
theorem mt_X12_relay : MT yX12_relay cX12_relay 2 (some .int) "SignalBlindModel" 1 := ⟨(mT_6 234 rfl rfl), (mT_6 235 rfl rfl), (mT_1 10 rfl rfl), (mT_6 236 rfl rfl), by decide⟩

abbrev rm_X12_ends : Room := { frames := 6, cells := 0, slots := 0, locals := 144 }
def f_X12_ends_18 (h : hp) : Option (hp × Int32) := (some (h, (-1 : Int32)))
def f_X12_ends_84 (k36 : hp → Int32 → Int32 → Int32 → Int32 → Option (hp × Int32)) (h : hp) (a18 : Int32) (a19 : Int32) (a20 : Int32) (a21 : Int32) : Option (hp × Int32) := (nm (a21 + (1 : Int32)) fun v22 =>
 (k36 h a18 a19 a20 v22))
def f_X12_ends_110 (h : hp) (a29 : Int32) : Option (hp × Int32) := (some (h, a29))
def f_X12_ends_36 : Nat → hp → Int32 → Int32 → Int32 → Int32 → Option (hp × Int32)
  | 0, _, _, _, _, _ => none
  | n + 1, h, a10, a11, a12, a13 => (if a13 < (hI h 52 32) then
 (chk a13 8
 (if (aI h 73 (a13).toNatClampNeg) = (5 : Int32) then
 (nm (sI h 52 2 ((hI h 52 2) + (1 : Int32))) fun h17 =>
 (f_X12_ends_84 (f_X12_ends_36 n) h17 a10 a11 a12 a13))
 else
 (chk a13 8
 (bnd (f_X12_showsOf h (aI h 73 (a13).toNatClampNeg) a12) fun h24 r25 =>
 (f_X12_ends_84 (f_X12_ends_36 n) h24 a10 a11 r25 a13)))))
 else
 (nm (sI h 52 2 a11) fun h27 =>
 (if a10 = 0 then
 (f_X12_ends_110 h27 a12)
 else
 (bnr (f_X12_readOf h27 a12) fun r30 =>
 (f_X12_ends_110 h27 r30)))))
def f_X12_ends (h : hp) (p0 : Int32) (p1 : Int32) : Option (hp × Int32) := (bnr (f_X12_isWord h p0) fun r1 =>
 (if r1 = 0 then
 (f_X12_ends_18 h)
 else
 (bnr (f_X12_in h p1 (0 : Int32) (1 : Int32)) fun r4 =>
 (if r4 = 0 then
 (f_X12_ends_18 h)
 else
 (nm (hI h 52 2) fun v7 =>
 (chk p0 8
 (nm (aI h 53 (p0).toNatClampNeg) fun v9 =>
 (f_X12_ends_36 2000 h p1 v7 v9 (0 : Int32)))))))))
set_option maxRecDepth 100000 in
set_option maxHeartbeats 4000000 in
theorem k_X12_ends_18 {ω : XO} (hω : ω.2.2.2.1 = 0) {κ : XK} (X : XC ω rm_X12_ends 6 κ cX12_ends "SignalBlindModel") {L : List Nat} {q : Nat → Nat} {h' : hp} {r : Int32} (R : XRet ω rm_X12_ends κ (some .int) L q h' (some (.int r))) : ∀ (h : hp), f_X12_ends_18 h = some (h', r) → XG ω rm_X12_ends 6 κ L q h 0 0 18 [] [] := by
  intro h hf
  unfold f_X12_ends_18 at hf
  refine x_iconst X (v := -1) dX12_ends_18 (by decide) ?_
  exact x_retSI X R hf dX12_ends_19
set_option maxRecDepth 100000 in
set_option maxHeartbeats 4000000 in
theorem k_X12_ends_84 {ω : XO} (hω : ω.2.2.2.1 = 0) {κ : XK} (X : XC ω rm_X12_ends 6 κ cX12_ends "SignalBlindModel") {L : List Nat} {q : Nat → Nat} {h' : hp} {r : Int32} (R : XRet ω rm_X12_ends κ (some .int) L q h' (some (.int r))) (k36 : hp → Int32 → Int32 → Int32 → Int32 → Option (hp × Int32)) (hk36 : ∀ (h : hp) (a10 : Int32) (a11 : Int32) (a12 : Int32) (a13 : Int32), k36 h a10 a11 a12 a13 = some (h', r) → XG ω rm_X12_ends 6 κ L q h 0 0 36 [(0, .ref (q 52)), (2, .int a10), (3, .int a11), (4, .int a12), (5, .int a13)] []) : ∀ (h : hp) (a18 : Int32) (a19 : Int32) (a20 : Int32) (a21 : Int32), f_X12_ends_84 k36 h a18 a19 a20 a21 = some (h', r) → XG ω rm_X12_ends 6 κ L q h 0 0 84 [(0, .ref (q 52)), (2, .int a18), (3, .int a19), (4, .int a20), (5, .int a21)] [] := by
  intro h a18 a19 a20 a21 hf
  unfold f_X12_ends_84 at hf
  obtain ⟨v22, ev22, hf⟩ := nm_some hf
  refine x_iincN X (v := 1) ev22 [(5, .int v22), (0, .ref (q 52)), (2, .int a18), (3, .int a19), (4, .int a20)] dX12_ends_84 4 rfl (by decide) (Nat.le_of_ble_eq_true rfl) rfl ?_
  refine x_goto X 36 dX12_ends_87 (by decide) ?_
  refine x_lv [1, 2, 3, 4, 0] rfl ?_
  exact hk36 h _ _ _ _ hf
set_option maxRecDepth 100000 in
set_option maxHeartbeats 4000000 in
theorem k_X12_ends_110 {ω : XO} (hω : ω.2.2.2.1 = 0) {κ : XK} (X : XC ω rm_X12_ends 6 κ cX12_ends "SignalBlindModel") {L : List Nat} {q : Nat → Nat} {h' : hp} {r : Int32} (R : XRet ω rm_X12_ends κ (some .int) L q h' (some (.int r))) : ∀ (h : hp) (a29 : Int32), f_X12_ends_110 h a29 = some (h', r) → XG ω rm_X12_ends 6 κ L q h 0 0 110 [] [.int a29] := by
  intro h a29 hf
  unfold f_X12_ends_110 at hf
  exact x_retSI X R hf dX12_ends_110
set_option maxRecDepth 100000 in
set_option maxHeartbeats 4000000 in
theorem k_X12_ends_36 {ω : XO} (hω : ω.2.2.2.1 = 0) {κ : XK} (X : XC ω rm_X12_ends 6 κ cX12_ends "SignalBlindModel") {L : List Nat} {q : Nat → Nat} {h' : hp} {r : Int32} (R : XRet ω rm_X12_ends κ (some .int) L q h' (some (.int r))) : ∀ (n : Nat) (h : hp) (a10 : Int32) (a11 : Int32) (a12 : Int32) (a13 : Int32), f_X12_ends_36 n h a10 a11 a12 a13 = some (h', r) → XG ω rm_X12_ends 6 κ L q h 0 0 36 [(0, .ref (q 52)), (2, .int a10), (3, .int a11), (4, .int a12), (5, .int a13)] [] := by
  intro n
  induction n with
  | zero =>
    intro h a10 a11 a12 a13 hf
    have hf : (none : Option (hp × Int32)) = some (h', r) := hf
    cases hf
  | succ n ih =>
    intro h a10 a11 a12 a13 hf
    rw [f_X12_ends_36] at hf
    refine x_iload X dX12_ends_36 4 rfl ?_
    refine x_aload_n X dX12_ends_38 0 rfl rfl ?_
    refine x_geti X (i := 52) fl_X12_108_13 (sdM_52 hω) (ks_52 _) rfl dX12_ends_39 ?_
    refine x_icmp_ge X 90 dX12_ends_42 (by decide) (fun c14 => ?_) (fun c14 => ?_)
    · replace hf := (if_pos c14).symm.trans hf
      refine x_aload_n X dX12_ends_45 0 rfl rfl ?_
      refine x_getsj X (i := 52) 21 fl_X12_114_13 (sdM_52 hω) (ks_52 _) rfl (j := 73) rfl dX12_ends_46 ?_
      refine x_iload X dX12_ends_49 4 rfl ?_
      obtain ⟨z15, hf⟩ := chk_some hf
      refine x_iald X (i := 73) (n := 8) (sdM_73 hω) (ks_73 _) z15 dX12_ends_51 ?_
      refine x_iconst X (v := 5) dX12_ends_52 (by decide) ?_
      refine x_icmp_ne X 69 dX12_ends_53 (by decide) (fun c16 => ?_) (fun c16 => ?_)
      · replace hf := (if_pos c16).symm.trans hf
        refine x_aload_n X dX12_ends_56 0 rfl rfl ?_
        refine x_dup X dX12_ends_57 rfl ?_
        refine x_geti X (i := 52) fl_X12_16_13 (sdM_52 hω) (ks_52 _) rfl dX12_ends_58 ?_
        refine x_iconst X (v := 1) dX12_ends_61 (by decide) ?_
        refine x_iadd X dX12_ends_62 ?_
        refine x_puti X (i := 52) fl_X12_16_13 fw_13 (sdM_52 hω) (ks_52 _) rfl rfl rfl rfl dX12_ends_63 ?_
        obtain ⟨h17, eh17, hf⟩ := nm_some hf
        refine x_nmh eh17 ?_
        refine x_goto X 84 dX12_ends_66 (by decide) ?_
        refine x_lv [0, 1, 2, 3, 4] rfl ?_
        exact k_X12_ends_84 hω X R _ ih h17 _ _ _ _ hf
      · replace hf := (if_neg c16).symm.trans hf
        refine x_aload_n X dX12_ends_69 0 rfl rfl ?_
        refine x_aload_n X dX12_ends_70 0 rfl rfl ?_
        refine x_getsj X (i := 52) 21 fl_X12_114_13 (sdM_52 hω) (ks_52 _) rfl (j := 73) rfl dX12_ends_71 ?_
        refine x_iload X dX12_ends_74 4 rfl ?_
        obtain ⟨z23, hf⟩ := chk_some hf
        refine x_iald X (i := 73) (n := 8) (sdM_73 hω) (ks_73 _) z23 dX12_ends_76 ?_
        refine x_iload X dX12_ends_77 3 rfl ?_
        obtain ⟨h24, r25, g26, hf⟩ := bnd_some hf
        refine c_X12_290 X hω g26 (hR := ⟨Nat.le_of_ble_eq_true rfl, Nat.le_of_ble_eq_true rfl⟩) ⟨Nat.zero_le _, Nat.zero_le _⟩ (Nat.le_of_ble_eq_true rfl) dX12_ends_79 ?_
        refine x_istore X [(4, .int r25), (0, .ref (q 52)), (2, .int a10), (3, .int a11), (5, .int a13)] dX12_ends_82 (Nat.le_of_ble_eq_true rfl) rfl ?_
        refine x_lv [1, 2, 3, 0, 4] rfl ?_
        exact k_X12_ends_84 hω X R _ ih h24 _ _ _ _ hf
    · replace hf := (if_neg c14).symm.trans hf
      refine x_aload_n X dX12_ends_90 0 rfl rfl ?_
      refine x_iload_n X dX12_ends_91 2 rfl rfl ?_
      refine x_puti X (i := 52) fl_X12_16_13 fw_13 (sdM_52 hω) (ks_52 _) rfl rfl rfl rfl dX12_ends_92 ?_
      obtain ⟨h27, eh27, hf⟩ := nm_some hf
      refine x_nmh eh27 ?_
      refine x_iload_n X dX12_ends_95 1 rfl rfl ?_
      refine x_if_ne X 104 dX12_ends_96 (by decide) (fun c28 => ?_) (fun c28 => ?_)
      · replace hf := (if_pos c28).symm.trans hf
        refine x_iload X dX12_ends_99 3 rfl ?_
        refine x_goto X 110 dX12_ends_101 (by decide) ?_
        refine x_lv [] rfl ?_
        exact k_X12_ends_110 hω X R h27 _ hf
      · replace hf := (if_neg c28).symm.trans hf
        refine x_aload_n X dX12_ends_104 0 rfl rfl ?_
        refine x_iload X dX12_ends_105 3 rfl ?_
        obtain ⟨r30, g31, hf⟩ := bnr_some hf
        refine c_X12_293 X hω g31 (hR := ⟨Nat.le_of_ble_eq_true rfl, Nat.le_of_ble_eq_true rfl⟩) ⟨Nat.zero_le _, Nat.zero_le _⟩ (Nat.le_of_ble_eq_true rfl) dX12_ends_107 ?_
        refine x_lv [] rfl ?_
        exact k_X12_ends_110 hω X R h27 _ hf
set_option maxRecDepth 100000 in
set_option maxHeartbeats 4000000 in
theorem k_X12_ends {ω : XO} (hω : ω.2.2.2.1 = 0) {L : List Nat} {q : Nat → Nat} {h h' : hp} {p0 : Int32} {p1 : Int32} {r : Int32} (hf : f_X12_ends h p0 p1 = some (h', r)) : XM ω yX12_ends cX12_ends 6 (some .int) rm_X12_ends L q h [.ref (q 52), .int p0, .int p1] (some (.int r)) h' := by
  refine XM_intro [(0, .ref (q 52)), (1, .int p0), (2, .int p1)] "SignalBlindModel" (by decide) rfl rfl (Nat.le_of_ble_eq_true rfl) (fun κ X R => ?_)
  unfold f_X12_ends at hf
  refine x_aload_n X dX12_ends_0 0 rfl rfl ?_
  refine x_iload_n X dX12_ends_1 1 rfl rfl ?_
  obtain ⟨r1, g2, hf⟩ := bnr_some hf
  refine c_X12_209 X hω g2 (hR := ⟨Nat.le_of_ble_eq_true rfl, Nat.le_of_ble_eq_true rfl⟩) ⟨Nat.zero_le _, Nat.zero_le _⟩ (Nat.le_of_ble_eq_true rfl) dX12_ends_2 ?_
  refine x_if_eq X 18 dX12_ends_5 (by decide) (fun c3 => ?_) (fun c3 => ?_)
  · replace hf := (if_pos c3).symm.trans hf
    refine x_lv [] rfl ?_
    exact k_X12_ends_18 hω X R h hf
  · replace hf := (if_neg c3).symm.trans hf
    refine x_aload_n X dX12_ends_8 0 rfl rfl ?_
    refine x_iload_n X dX12_ends_9 2 rfl rfl ?_
    refine x_iconst X (v := 0) dX12_ends_10 (by decide) ?_
    refine x_iconst X (v := 1) dX12_ends_11 (by decide) ?_
    obtain ⟨r4, g5, hf⟩ := bnr_some hf
    refine c_X12_201 X hω g5 (hR := ⟨Nat.le_of_ble_eq_true rfl, Nat.le_of_ble_eq_true rfl⟩) ⟨Nat.zero_le _, Nat.zero_le _⟩ (Nat.le_of_ble_eq_true rfl) dX12_ends_12 ?_
    refine x_if_ne X 20 dX12_ends_15 (by decide) (fun c6 => ?_) (fun c6 => ?_)
    · replace hf := (if_pos c6).symm.trans hf
      refine x_lv [] rfl ?_
      exact k_X12_ends_18 hω X R h hf
    · replace hf := (if_neg c6).symm.trans hf
      refine x_aload_n X dX12_ends_20 0 rfl rfl ?_
      refine x_geti X (i := 52) fl_X12_16_13 (sdM_52 hω) (ks_52 _) rfl dX12_ends_21 ?_
      obtain ⟨v7, ev7, hf⟩ := nm_some hf
      refine x_nmI ev7 ?_
      refine x_istore_n X [(3, .int v7), (0, .ref (q 52)), (1, .int p0), (2, .int p1)] dX12_ends_24 rfl (Nat.le_of_ble_eq_true rfl) rfl ?_
      refine x_aload_n X dX12_ends_25 1 rfl rfl ?_
      refine x_getsj X (i := 52) 1 fl_X12_19_13 (sdM_52 hω) (ks_52 _) rfl (j := 53) rfl dX12_ends_26 ?_
      refine x_iload_n X dX12_ends_29 2 rfl rfl ?_
      obtain ⟨z8, hf⟩ := chk_some hf
      refine x_iald X (i := 53) (n := 8) (sdM_53 hω) (ks_53 _) z8 dX12_ends_30 ?_
      obtain ⟨v9, ev9, hf⟩ := nm_some hf
      refine x_nmI ev9 ?_
      refine x_istore X [(4, .int v9), (3, .int v7), (0, .ref (q 52)), (1, .int p0), (2, .int p1)] dX12_ends_31 (Nat.le_of_ble_eq_true rfl) rfl ?_
      refine x_iconst X (v := 0) dX12_ends_33 (by decide) ?_
      refine x_istore X [(5, .int (0 : Int32)), (4, .int v9), (3, .int v7), (0, .ref (q 52)), (1, .int p0), (2, .int p1)] dX12_ends_34 (Nat.le_of_ble_eq_true rfl) rfl ?_
      refine x_lv [3, 5, 2, 1, 0] rfl ?_
      exact k_X12_ends_36 hω X R _ h _ _ _ _ hf
theorem mt_X12_ends : MT yX12_ends cX12_ends 6 (some .int) "SignalBlindModel" 2 := ⟨(mT_6 238 rfl rfl), (mT_6 239 rfl rfl), (mT_1 10 rfl rfl), (mT_7 0 rfl rfl), by decide⟩

abbrev rm_X12_book : Room := { frames := 2, cells := 0, slots := 0, locals := 44 }
def f_X12_book (h : hp) (p0 : Int32) (p1 : Int32) : Option (hp × Int32) := (if p0 = (-1 : Int32) then
 (nm (sI h 52 33 (0 : Int32)) fun h2 =>
 (some (h2, (0 : Int32))))
 else
 (bnr (f_X12_isWord h p0) fun r3 =>
 (if r3 = 0 then
 (some (h, (-1 : Int32)))
 else
 (bnr (f_X12_isSign h p1) fun r6 =>
 (if r6 = 0 then
 (some (h, (-2 : Int32)))
 else
 (if (hI h 52 33) = (8 : Int32) then
 (some (h, (-4 : Int32)))
 else
 (chk (hI h 52 33) 8
 (nm (tI h 74 ((hI h 52 33)).toNatClampNeg p0) fun h11 =>
 (chk (hI h11 52 33) 8
 (nm (tI h11 75 ((hI h11 52 33)).toNatClampNeg p1) fun h13 =>
 (nm (sI h13 52 33 ((hI h13 52 33) + (1 : Int32))) fun h14 =>
 (some (h14, (hI h14 52 33))))))))))))))
set_option maxRecDepth 100000 in
set_option maxHeartbeats 4000000 in
theorem k_X12_book {ω : XO} (hω : ω.2.2.2.1 = 0) {L : List Nat} {q : Nat → Nat} {h h' : hp} {p0 : Int32} {p1 : Int32} {r : Int32} (hf : f_X12_book h p0 p1 = some (h', r)) : XM ω yX12_book cX12_book 3 (some .int) rm_X12_book L q h [.ref (q 52), .int p0, .int p1] (some (.int r)) h' := by
  refine XM_intro [(0, .ref (q 52)), (1, .int p0), (2, .int p1)] "SignalBlindModel" (by decide) rfl rfl (Nat.le_of_ble_eq_true rfl) (fun κ X R => ?_)
  unfold f_X12_book at hf
  refine x_iload_n X dX12_book_0 1 rfl rfl ?_
  refine x_iconst X (v := -1) dX12_book_1 (by decide) ?_
  refine x_icmp_ne X 12 dX12_book_2 (by decide) (fun c1 => ?_) (fun c1 => ?_)
  · replace hf := (if_pos c1).symm.trans hf
    refine x_aload_n X dX12_book_5 0 rfl rfl ?_
    refine x_iconst X (v := 0) dX12_book_6 (by decide) ?_
    refine x_puti X (i := 52) fl_X12_111_13 fw_13 (sdM_52 hω) (ks_52 _) rfl rfl rfl rfl dX12_book_7 ?_
    obtain ⟨h2, eh2, hf⟩ := nm_some hf
    refine x_nmh eh2 ?_
    refine x_iconst X (v := 0) dX12_book_10 (by decide) ?_
    exact x_retSI X R hf dX12_book_11
  · replace hf := (if_neg c1).symm.trans hf
    refine x_aload_n X dX12_book_12 0 rfl rfl ?_
    refine x_iload_n X dX12_book_13 1 rfl rfl ?_
    obtain ⟨r3, g4, hf⟩ := bnr_some hf
    refine c_X12_209 X hω g4 (hR := ⟨Nat.le_of_ble_eq_true rfl, Nat.le_of_ble_eq_true rfl⟩) ⟨Nat.zero_le _, Nat.zero_le _⟩ (Nat.le_of_ble_eq_true rfl) dX12_book_14 ?_
    refine x_if_ne X 22 dX12_book_17 (by decide) (fun c5 => ?_) (fun c5 => ?_)
    · replace hf := (if_pos c5).symm.trans hf
      refine x_iconst X (v := -1) dX12_book_20 (by decide) ?_
      exact x_retSI X R hf dX12_book_21
    · replace hf := (if_neg c5).symm.trans hf
      refine x_aload_n X dX12_book_22 0 rfl rfl ?_
      refine x_iload_n X dX12_book_23 2 rfl rfl ?_
      obtain ⟨r6, g7, hf⟩ := bnr_some hf
      refine c_X12_205 X hω g7 (hR := ⟨Nat.le_of_ble_eq_true rfl, Nat.le_of_ble_eq_true rfl⟩) ⟨Nat.zero_le _, Nat.zero_le _⟩ (Nat.le_of_ble_eq_true rfl) dX12_book_24 ?_
      refine x_if_ne X 33 dX12_book_27 (by decide) (fun c8 => ?_) (fun c8 => ?_)
      · replace hf := (if_pos c8).symm.trans hf
        refine x_bipush X (v := -2) dX12_book_30 (by decide) ?_
        exact x_retSI X R hf dX12_book_32
      · replace hf := (if_neg c8).symm.trans hf
        refine x_aload_n X dX12_book_33 0 rfl rfl ?_
        refine x_geti X (i := 52) fl_X12_111_13 (sdM_52 hω) (ks_52 _) rfl dX12_book_34 ?_
        refine x_bipush X (v := 8) dX12_book_37 (by decide) ?_
        refine x_icmp_ne X 45 dX12_book_39 (by decide) (fun c9 => ?_) (fun c9 => ?_)
        · replace hf := (if_pos c9).symm.trans hf
          refine x_bipush X (v := -4) dX12_book_42 (by decide) ?_
          exact x_retSI X R hf dX12_book_44
        · replace hf := (if_neg c9).symm.trans hf
          refine x_aload_n X dX12_book_45 0 rfl rfl ?_
          refine x_getsj X (i := 52) 22 fl_X12_117_13 (sdM_52 hω) (ks_52 _) rfl (j := 74) rfl dX12_book_46 ?_
          refine x_aload_n X dX12_book_49 0 rfl rfl ?_
          refine x_geti X (i := 52) fl_X12_111_13 (sdM_52 hω) (ks_52 _) rfl dX12_book_50 ?_
          refine x_iload_n X dX12_book_53 1 rfl rfl ?_
          obtain ⟨z10, hf⟩ := chk_some hf
          refine x_iast X (i := 74) (n := 8) (sdM_74 hω) (ks_74 _) z10 dX12_book_54 ?_
          obtain ⟨h11, eh11, hf⟩ := nm_some hf
          refine x_nmh eh11 ?_
          refine x_aload_n X dX12_book_55 0 rfl rfl ?_
          refine x_getsj X (i := 52) 23 fl_X12_120_13 (sdM_52 hω) (ks_52 _) rfl (j := 75) rfl dX12_book_56 ?_
          refine x_aload_n X dX12_book_59 0 rfl rfl ?_
          refine x_geti X (i := 52) fl_X12_111_13 (sdM_52 hω) (ks_52 _) rfl dX12_book_60 ?_
          refine x_iload_n X dX12_book_63 2 rfl rfl ?_
          obtain ⟨z12, hf⟩ := chk_some hf
          refine x_iast X (i := 75) (n := 8) (sdM_75 hω) (ks_75 _) z12 dX12_book_64 ?_
          obtain ⟨h13, eh13, hf⟩ := nm_some hf
          refine x_nmh eh13 ?_
          refine x_aload_n X dX12_book_65 0 rfl rfl ?_
          refine x_dup X dX12_book_66 rfl ?_
          refine x_geti X (i := 52) fl_X12_111_13 (sdM_52 hω) (ks_52 _) rfl dX12_book_67 ?_
          refine x_iconst X (v := 1) dX12_book_70 (by decide) ?_
          refine x_iadd X dX12_book_71 ?_
          refine x_puti X (i := 52) fl_X12_111_13 fw_13 (sdM_52 hω) (ks_52 _) rfl rfl rfl rfl dX12_book_72 ?_
          obtain ⟨h14, eh14, hf⟩ := nm_some hf
          refine x_nmh eh14 ?_
          refine x_aload_n X dX12_book_75 0 rfl rfl ?_
          refine x_geti X (i := 52) fl_X12_111_13 (sdM_52 hω) (ks_52 _) rfl dX12_book_76 ?_
          exact x_retSI X R hf dX12_book_79
theorem mt_X12_book : MT yX12_book cX12_book 3 (some .int) "SignalBlindModel" 2 := ⟨(mT_7 2 rfl rfl), (mT_7 3 rfl rfl), (mT_1 10 rfl rfl), (mT_7 4 rfl rfl), by decide⟩

abbrev rm_X12_looked : Room := { frames := 0, cells := 0, slots := 0, locals := 0 }
def f_X12_looked_2 (h : hp) : Nat → Int32 → Option Int32
  | 0, _ => none
  | n + 1, a1 => (if a1 < (hI h 52 33) then
 (chk a1 8
 (chk (aI h 74 (a1).toNatClampNeg) 8
 (chk a1 8
 (if (aI h 53 ((aI h 74 (a1).toNatClampNeg)).toNatClampNeg) = (aI h 75 (a1).toNatClampNeg) then
 (nm (a1 + (1 : Int32)) fun v7 =>
 ((f_X12_looked_2 h n) v7))
 else
 (some a1)))))
 else
 (some (-5 : Int32)))
def f_X12_looked (h : hp) : Option Int32 := (f_X12_looked_2 h 2000 (0 : Int32))
set_option maxRecDepth 100000 in
set_option maxHeartbeats 4000000 in
theorem k_X12_looked_2 {ω : XO} (hω : ω.2.2.2.1 = 0) {κ : XK} (X : XC ω rm_X12_looked 2 κ cX12_looked "SignalBlindModel") {L : List Nat} {q : Nat → Nat} {h : hp} {r : Int32} (R : XRet ω rm_X12_looked κ (some .int) L q h (some (.int r))) : ∀ (n : Nat) (a1 : Int32), f_X12_looked_2 h n a1 = some r → XG ω rm_X12_looked 2 κ L q h 0 0 2 [(0, .ref (q 52)), (1, .int a1)] [] := by
  intro n
  induction n with
  | zero =>
    intro a1 hf
    have hf : (none : Option Int32) = some r := hf
    cases hf
  | succ n ih =>
    intro a1 hf
    rw [f_X12_looked_2] at hf
    refine x_iload_n X dX12_looked_2 1 rfl rfl ?_
    refine x_aload_n X dX12_looked_3 0 rfl rfl ?_
    refine x_geti X (i := 52) fl_X12_111_13 (sdM_52 hω) (ks_52 _) rfl dX12_looked_4 ?_
    refine x_icmp_ge X 38 dX12_looked_7 (by decide) (fun c2 => ?_) (fun c2 => ?_)
    · replace hf := (if_pos c2).symm.trans hf
      refine x_aload_n X dX12_looked_10 0 rfl rfl ?_
      refine x_getsj X (i := 52) 1 fl_X12_19_13 (sdM_52 hω) (ks_52 _) rfl (j := 53) rfl dX12_looked_11 ?_
      refine x_aload_n X dX12_looked_14 0 rfl rfl ?_
      refine x_getsj X (i := 52) 22 fl_X12_117_13 (sdM_52 hω) (ks_52 _) rfl (j := 74) rfl dX12_looked_15 ?_
      refine x_iload_n X dX12_looked_18 1 rfl rfl ?_
      obtain ⟨z3, hf⟩ := chk_some hf
      refine x_iald X (i := 74) (n := 8) (sdM_74 hω) (ks_74 _) z3 dX12_looked_19 ?_
      obtain ⟨z4, hf⟩ := chk_some hf
      refine x_iald X (i := 53) (n := 8) (sdM_53 hω) (ks_53 _) z4 dX12_looked_20 ?_
      refine x_aload_n X dX12_looked_21 0 rfl rfl ?_
      refine x_getsj X (i := 52) 23 fl_X12_120_13 (sdM_52 hω) (ks_52 _) rfl (j := 75) rfl dX12_looked_22 ?_
      refine x_iload_n X dX12_looked_25 1 rfl rfl ?_
      obtain ⟨z5, hf⟩ := chk_some hf
      refine x_iald X (i := 75) (n := 8) (sdM_75 hω) (ks_75 _) z5 dX12_looked_26 ?_
      refine x_icmp_eq X 32 dX12_looked_27 (by decide) (fun c6 => ?_) (fun c6 => ?_)
      · replace hf := (if_pos c6).symm.trans hf
        obtain ⟨v7, ev7, hf⟩ := nm_some hf
        refine x_iincN X (v := 1) ev7 [(1, .int v7), (0, .ref (q 52))] dX12_looked_32 1 rfl (by decide) (Nat.le_of_ble_eq_true rfl) rfl ?_
        refine x_goto X 2 dX12_looked_35 (by decide) ?_
        refine x_lv [1, 0] rfl ?_
        exact ih _ hf
      · replace hf := (if_neg c6).symm.trans hf
        refine x_iload_n X dX12_looked_30 1 rfl rfl ?_
        exact x_retRI X R hf dX12_looked_31
    · replace hf := (if_neg c2).symm.trans hf
      refine x_bipush X (v := -5) dX12_looked_38 (by decide) ?_
      exact x_retRI X R hf dX12_looked_40
set_option maxRecDepth 100000 in
set_option maxHeartbeats 4000000 in
theorem k_X12_looked {ω : XO} (hω : ω.2.2.2.1 = 0) {L : List Nat} {q : Nat → Nat} {h : hp}  {r : Int32} (hf : f_X12_looked h = some r) : XM ω yX12_looked cX12_looked 2 (some .int) rm_X12_looked L q h [.ref (q 52)] (some (.int r)) h := by
  refine XM_intro [(0, .ref (q 52))] "SignalBlindModel" (by decide) rfl rfl (Nat.le_of_ble_eq_true rfl) (fun κ X R => ?_)
  unfold f_X12_looked at hf
  refine x_iconst X (v := 0) dX12_looked_0 (by decide) ?_
  refine x_istore_n X [(1, .int (0 : Int32)), (0, .ref (q 52))] dX12_looked_1 rfl (Nat.le_of_ble_eq_true rfl) rfl ?_
  refine x_lv [1, 0] rfl ?_
  exact k_X12_looked_2 hω X R _ _ hf
theorem mt_X12_looked : MT yX12_looked cX12_looked 2 (some .int) "SignalBlindModel" 0 := ⟨(mT_7 6 rfl rfl), (mT_7 7 rfl rfl), (mT_1 10 rfl rfl), (mT_7 8 rfl rfl), by decide⟩

abbrev rm_X12_isTape : Room := { frames := 1, cells := 0, slots := 0, locals := 23 }
def f_X12_isTape (h : hp) (p0 : Int32) : Option Int32 := (bnr (f_X12_in h p0 (0 : Int32) (5 : Int32)) fun r1 =>
 (ckZ r1
 (some r1)))
set_option maxRecDepth 100000 in
set_option maxHeartbeats 4000000 in
theorem k_X12_isTape {ω : XO} (hω : ω.2.2.2.1 = 0) {L : List Nat} {q : Nat → Nat} {h : hp} {p0 : Int32} {r : Int32} (hf : f_X12_isTape h p0 = some r) : XM ω yX12_isTape cX12_isTape 2 (some .boolean) rm_X12_isTape L q h [.ref (q 52), .int p0] (some (.int r)) h := by
  refine XM_intro [(0, .ref (q 52)), (1, .int p0)] "SignalBlindModel" (by decide) rfl rfl (Nat.le_of_ble_eq_true rfl) (fun κ X R => ?_)
  unfold f_X12_isTape at hf
  refine x_aload_n X dX12_isTape_0 0 rfl rfl ?_
  refine x_iload_n X dX12_isTape_1 1 rfl rfl ?_
  refine x_iconst X (v := 0) dX12_isTape_2 (by decide) ?_
  refine x_iconst X (v := 5) dX12_isTape_3 (by decide) ?_
  obtain ⟨r1, g2, hf⟩ := bnr_some hf
  refine c_X12_201 X hω g2 (hR := ⟨Nat.le_of_ble_eq_true rfl, Nat.le_of_ble_eq_true rfl⟩) ⟨Nat.zero_le _, Nat.zero_le _⟩ (Nat.le_of_ble_eq_true rfl) dX12_isTape_4 ?_
  obtain ⟨z3, hf⟩ := ckZ_some hf
  exact x_retRZ X R z3 hf dX12_isTape_7
theorem mt_X12_isTape : MT yX12_isTape cX12_isTape 2 (some .boolean) "SignalBlindModel" 1 := ⟨(mT_7 15 rfl rfl), (mTp (q := (yX12_isTape, 61)) (by decide +kernel) rfl), (mT_1 10 rfl rfl), (mT_7 16 rfl rfl), by decide⟩
theorem c_X12_330 {ω : XO} {rm : Room} {nL : Nat} {κ : XK} {cc : ByteArray} (X : XC ω rm nL κ cc "SignalBlindModel") (hω : ω.2.2.2.1 = 0) {L : List Nat} {q : Nat → Nat} {h : hp} {cells slots pc : Nat} {lv : List (Nat × Value)} {rest : List Value} {p0 : Int32} {r : Int32} (hf : f_X12_isTape h p0 = some r) (hR : rm_X12_isTape.frames + 1 ≤ rm.frames ∧ 8 + (2 + 11) + rm_X12_isTape.locals ≤ rm.locals) (hcs : cells ≤ rm.cells ∧ slots ≤ rm.slots) (hroom : (rest.map fun v => v.category).sum ≤ 8) (hd : decode cc pc = .ok (.invokevirtual 330, 3)) (kk : XG ω rm nL κ L q h cells slots (pc + 3) lv (.int r :: rest)) : XG ω rm nL κ L q h cells slots pc lv (.int p0 :: .ref (q 52) :: rest) := x_callV X [.int p0] rest (k_X12_isTape hω hf) mt_X12_isTape (mT_7 13 rfl rfl) hR ⟨rfl, rfl⟩ hcs (sdM_52 hω) (ks_52 _) (by decide) rfl rfl hroom hd kk

abbrev rm_X12_judge : Room := { frames := 2, cells := 0, slots := 0, locals := 44 }
def f_X12_judge_69 (h : hp) (a14 : Int32) : Option Int32 := (some ((100 : Int32) + a14))
def f_X12_judge_34 (h : hp) : Nat → Int32 → Int32 → Int32 → Option Int32
  | 0, _, _, _ => none
  | n + 1, a8, a9, a10 => (if a10 < (hI h 52 0) then
 (chk a8 6
 (if (aI h 87 (a8).toNatClampNeg) < 0 then
 (f_X12_judge_69 h a10)
 else
 (if a9 < 0 then
 (f_X12_judge_69 h a10)
 else
 (chk a8 6
 (if (((aI h 88 (a8).toNatClampNeg) - a10) - (1 : Int32)) < a9 then
 (f_X12_judge_69 h a10)
 else
 (chk ((((60 : Int32) * a8) + a9) + a10) 360
 (chk a10 8
 (if (lg_cmp (aL h 89 (((((60 : Int32) * a8) + a9) + a10)).toNatClampNeg) (((aI h 53 (a10).toNatClampNeg)).toInt64)) = 0 then
 (nm (a10 + (1 : Int32)) fun v21 =>
 ((f_X12_judge_34 h n) a8 a9 v21))
 else
 (some a10)))))))))
 else
 (some (-5 : Int32)))
def f_X12_judge_32 (h : hp) (a6 : Int32) (a7 : Int32) : Option Int32 := (f_X12_judge_34 h 2000 a6 a7 (0 : Int32))
def f_X12_judge (h : hp) (p0 : Int32) (p1 : Int32) : Option Int32 := (bnr (f_X12_isTape h p0) fun r1 =>
 (if r1 = 0 then
 (some (-1 : Int32))
 else
 (chk p0 6
 (if (aI h 87 (p0).toNatClampNeg) < 0 then
 (f_X12_judge_32 h p0 p1)
 else
 (chk p0 6
 (if (aI h 87 (p0).toNatClampNeg) = (1 : Int32) then
 (f_X12_judge_32 h p0 p1)
 else
 (some (-12 : Int32))))))))
set_option maxRecDepth 100000 in
set_option maxHeartbeats 4000000 in
theorem k_X12_judge_69 {ω : XO} (hω : ω.2.2.2.1 = 0) {κ : XK} (X : XC ω rm_X12_judge 4 κ cX12_judge "SignalBlindModel") {L : List Nat} {q : Nat → Nat} {h : hp} {r : Int32} (R : XRet ω rm_X12_judge κ (some .int) L q h (some (.int r))) : ∀ (a14 : Int32), f_X12_judge_69 h a14 = some r → XG ω rm_X12_judge 4 κ L q h 0 0 69 [(3, .int a14)] [] := by
  intro a14 hf
  unfold f_X12_judge_69 at hf
  refine x_bipush X (v := 100) dX12_judge_69 (by decide) ?_
  refine x_iload_n X dX12_judge_71 0 rfl rfl ?_
  refine x_iadd X dX12_judge_72 ?_
  exact x_retRI X R hf dX12_judge_73
set_option maxRecDepth 100000 in
set_option maxHeartbeats 4000000 in
theorem k_X12_judge_34 {ω : XO} (hω : ω.2.2.2.1 = 0) {κ : XK} (X : XC ω rm_X12_judge 4 κ cX12_judge "SignalBlindModel") {L : List Nat} {q : Nat → Nat} {h : hp} {r : Int32} (R : XRet ω rm_X12_judge κ (some .int) L q h (some (.int r))) : ∀ (n : Nat) (a8 : Int32) (a9 : Int32) (a10 : Int32), f_X12_judge_34 h n a8 a9 a10 = some r → XG ω rm_X12_judge 4 κ L q h 0 0 34 [(0, .ref (q 52)), (1, .int a8), (2, .int a9), (3, .int a10)] [] := by
  intro n
  induction n with
  | zero =>
    intro a8 a9 a10 hf
    have hf : (none : Option Int32) = some r := hf
    cases hf
  | succ n ih =>
    intro a8 a9 a10 hf
    rw [f_X12_judge_34] at hf
    refine x_iload_n X dX12_judge_34 3 rfl rfl ?_
    refine x_aload_n X dX12_judge_35 0 rfl rfl ?_
    refine x_geti X (i := 52) fl_X12_7_13 (sdM_52 hω) (ks_52 _) rfl dX12_judge_36 ?_
    refine x_icmp_ge X 106 dX12_judge_39 (by decide) (fun c11 => ?_) (fun c11 => ?_)
    · replace hf := (if_pos c11).symm.trans hf
      refine x_aload_n X dX12_judge_42 0 rfl rfl ?_
      refine x_getsj X (i := 52) 35 fl_X12_184_13 (sdM_52 hω) (ks_52 _) rfl (j := 87) rfl dX12_judge_43 ?_
      refine x_iload_n X dX12_judge_46 1 rfl rfl ?_
      obtain ⟨z12, hf⟩ := chk_some hf
      refine x_iald X (i := 87) (n := 6) (sdM_87 hω) (ks_87 _) z12 dX12_judge_47 ?_
      refine x_if_lt X 69 dX12_judge_48 (by decide) (fun c13 => ?_) (fun c13 => ?_)
      · replace hf := (if_pos c13).symm.trans hf
        refine x_lv [3] rfl ?_
        exact k_X12_judge_69 hω X R _ hf
      · replace hf := (if_neg c13).symm.trans hf
        refine x_iload_n X dX12_judge_51 2 rfl rfl ?_
        refine x_if_lt X 69 dX12_judge_52 (by decide) (fun c15 => ?_) (fun c15 => ?_)
        · replace hf := (if_pos c15).symm.trans hf
          refine x_lv [3] rfl ?_
          exact k_X12_judge_69 hω X R _ hf
        · replace hf := (if_neg c15).symm.trans hf
          refine x_iload_n X dX12_judge_55 2 rfl rfl ?_
          refine x_aload_n X dX12_judge_56 0 rfl rfl ?_
          refine x_getsj X (i := 52) 36 fl_X12_187_13 (sdM_52 hω) (ks_52 _) rfl (j := 88) rfl dX12_judge_57 ?_
          refine x_iload_n X dX12_judge_60 1 rfl rfl ?_
          obtain ⟨z16, hf⟩ := chk_some hf
          refine x_iald X (i := 88) (n := 6) (sdM_88 hω) (ks_88 _) z16 dX12_judge_61 ?_
          refine x_iload_n X dX12_judge_62 3 rfl rfl ?_
          refine x_isub X dX12_judge_63 ?_
          refine x_iconst X (v := 1) dX12_judge_64 (by decide) ?_
          refine x_isub X dX12_judge_65 ?_
          refine x_icmp_le X 74 dX12_judge_66 (by decide) (fun c17 => ?_) (fun c17 => ?_)
          · replace hf := (if_pos c17).symm.trans hf
            refine x_lv [3] rfl ?_
            exact k_X12_judge_69 hω X R _ hf
          · replace hf := (if_neg c17).symm.trans hf
            refine x_aload_n X dX12_judge_74 0 rfl rfl ?_
            refine x_getsj X (i := 52) 37 fl_X12_190_13 (sdM_52 hω) (ks_52 _) rfl (j := 89) rfl dX12_judge_75 ?_
            refine x_bipush X (v := 60) dX12_judge_78 (by decide) ?_
            refine x_iload_n X dX12_judge_80 1 rfl rfl ?_
            refine x_imul X dX12_judge_81 ?_
            refine x_iload_n X dX12_judge_82 2 rfl rfl ?_
            refine x_iadd X dX12_judge_83 ?_
            refine x_iload_n X dX12_judge_84 3 rfl rfl ?_
            refine x_iadd X dX12_judge_85 ?_
            obtain ⟨z18, hf⟩ := chk_some hf
            refine x_lald X (i := 89) (n := 360) (sdM_89 hω) (ks_89 _) z18 dX12_judge_86 ?_
            refine x_aload_n X dX12_judge_87 0 rfl rfl ?_
            refine x_getsj X (i := 52) 1 fl_X12_19_13 (sdM_52 hω) (ks_52 _) rfl (j := 53) rfl dX12_judge_88 ?_
            refine x_iload_n X dX12_judge_91 3 rfl rfl ?_
            obtain ⟨z19, hf⟩ := chk_some hf
            refine x_iald X (i := 53) (n := 8) (sdM_53 hω) (ks_53 _) z19 dX12_judge_92 ?_
            refine x_i2l X dX12_judge_93 ?_
            refine x_lcmp X dX12_judge_94 ?_
            refine x_if_eq X 100 dX12_judge_95 (by decide) (fun c20 => ?_) (fun c20 => ?_)
            · replace hf := (if_pos c20).symm.trans hf
              obtain ⟨v21, ev21, hf⟩ := nm_some hf
              refine x_iincN X (v := 1) ev21 [(3, .int v21), (0, .ref (q 52)), (1, .int a8), (2, .int a9)] dX12_judge_100 3 rfl (by decide) (Nat.le_of_ble_eq_true rfl) rfl ?_
              refine x_goto X 34 dX12_judge_103 (by decide) ?_
              refine x_lv [1, 2, 3, 0] rfl ?_
              exact ih _ _ _ hf
            · replace hf := (if_neg c20).symm.trans hf
              refine x_iload_n X dX12_judge_98 3 rfl rfl ?_
              exact x_retRI X R hf dX12_judge_99
    · replace hf := (if_neg c11).symm.trans hf
      refine x_bipush X (v := -5) dX12_judge_106 (by decide) ?_
      exact x_retRI X R hf dX12_judge_108
set_option maxRecDepth 100000 in
set_option maxHeartbeats 4000000 in
theorem k_X12_judge_32 {ω : XO} (hω : ω.2.2.2.1 = 0) {κ : XK} (X : XC ω rm_X12_judge 4 κ cX12_judge "SignalBlindModel") {L : List Nat} {q : Nat → Nat} {h : hp} {r : Int32} (R : XRet ω rm_X12_judge κ (some .int) L q h (some (.int r))) : ∀ (a6 : Int32) (a7 : Int32), f_X12_judge_32 h a6 a7 = some r → XG ω rm_X12_judge 4 κ L q h 0 0 32 [(0, .ref (q 52)), (1, .int a6), (2, .int a7)] [] := by
  intro a6 a7 hf
  unfold f_X12_judge_32 at hf
  refine x_iconst X (v := 0) dX12_judge_32 (by decide) ?_
  refine x_istore_n X [(3, .int (0 : Int32)), (0, .ref (q 52)), (1, .int a6), (2, .int a7)] dX12_judge_33 rfl (Nat.le_of_ble_eq_true rfl) rfl ?_
  refine x_lv [1, 2, 3, 0] rfl ?_
  exact k_X12_judge_34 hω X R _ _ _ _ hf
set_option maxRecDepth 100000 in
set_option maxHeartbeats 4000000 in
theorem k_X12_judge {ω : XO} (hω : ω.2.2.2.1 = 0) {L : List Nat} {q : Nat → Nat} {h : hp} {p0 : Int32} {p1 : Int32} {r : Int32} (hf : f_X12_judge h p0 p1 = some r) : XM ω yX12_judge cX12_judge 4 (some .int) rm_X12_judge L q h [.ref (q 52), .int p0, .int p1] (some (.int r)) h := by
  refine XM_intro [(0, .ref (q 52)), (1, .int p0), (2, .int p1)] "SignalBlindModel" (by decide) rfl rfl (Nat.le_of_ble_eq_true rfl) (fun κ X R => ?_)
  unfold f_X12_judge at hf
  refine x_aload_n X dX12_judge_0 0 rfl rfl ?_
  refine x_iload_n X dX12_judge_1 1 rfl rfl ?_
  obtain ⟨r1, g2, hf⟩ := bnr_some hf
  refine c_X12_330 X hω g2 (hR := ⟨Nat.le_of_ble_eq_true rfl, Nat.le_of_ble_eq_true rfl⟩) ⟨Nat.zero_le _, Nat.zero_le _⟩ (Nat.le_of_ble_eq_true rfl) dX12_judge_2 ?_
  refine x_if_ne X 10 dX12_judge_5 (by decide) (fun c3 => ?_) (fun c3 => ?_)
  · replace hf := (if_pos c3).symm.trans hf
    refine x_iconst X (v := -1) dX12_judge_8 (by decide) ?_
    exact x_retRI X R hf dX12_judge_9
  · replace hf := (if_neg c3).symm.trans hf
    refine x_aload_n X dX12_judge_10 0 rfl rfl ?_
    refine x_getsj X (i := 52) 35 fl_X12_184_13 (sdM_52 hω) (ks_52 _) rfl (j := 87) rfl dX12_judge_11 ?_
    refine x_iload_n X dX12_judge_14 1 rfl rfl ?_
    obtain ⟨z4, hf⟩ := chk_some hf
    refine x_iald X (i := 87) (n := 6) (sdM_87 hω) (ks_87 _) z4 dX12_judge_15 ?_
    refine x_if_lt X 32 dX12_judge_16 (by decide) (fun c5 => ?_) (fun c5 => ?_)
    · replace hf := (if_pos c5).symm.trans hf
      refine x_lv [0, 1, 2] rfl ?_
      exact k_X12_judge_32 hω X R _ _ hf
    · replace hf := (if_neg c5).symm.trans hf
      refine x_aload_n X dX12_judge_19 0 rfl rfl ?_
      refine x_getsj X (i := 52) 35 fl_X12_184_13 (sdM_52 hω) (ks_52 _) rfl (j := 87) rfl dX12_judge_20 ?_
      refine x_iload_n X dX12_judge_23 1 rfl rfl ?_
      obtain ⟨z22, hf⟩ := chk_some hf
      refine x_iald X (i := 87) (n := 6) (sdM_87 hω) (ks_87 _) z22 dX12_judge_24 ?_
      refine x_iconst X (v := 1) dX12_judge_25 (by decide) ?_
      refine x_icmp_eq X 32 dX12_judge_26 (by decide) (fun c23 => ?_) (fun c23 => ?_)
      · replace hf := (if_pos c23).symm.trans hf
        refine x_lv [0, 1, 2] rfl ?_
        exact k_X12_judge_32 hω X R _ _ hf
      · replace hf := (if_neg c23).symm.trans hf
        refine x_bipush X (v := -12) dX12_judge_29 (by decide) ?_
        exact x_retRI X R hf dX12_judge_31
theorem mt_X12_judge : MT yX12_judge cX12_judge 4 (some .int) "SignalBlindModel" 2 := ⟨(mT_7 10 rfl rfl), (mT_7 11 rfl rfl), (mT_1 10 rfl rfl), (mT_7 12 rfl rfl), by decide⟩
