abbrev rm_X12_takesTest : Room := { frames := 3, cells := 0, slots := 0, locals := 64 }
def f_X12_takesTest (h : hp) : Option (hp × Int32) := (bnr (f_X12_next h) fun r1 =>
 (bnr (f_X12_place h r1) fun r3 =>
 (if r3 < 0 then
 (some (h, (0 : Int32)))
 else
 (nm (sI h 52 11 ((hI h 52 11) + (1 : Int32))) fun h6 =>
 (bnr (f_X12_next h6) fun r7 =>
 (bnr (f_X12_in h6 r7 (60 : Int32) (62 : Int32)) fun r9 =>
 (if r9 = 0 then
 (some (h6, (0 : Int32)))
 else
 (nm (sI h6 52 11 ((hI h6 52 11) + (1 : Int32))) fun h12 =>
 (bnd (f_X12_takesNumber h12) fun h13 r14 =>
 (if r14 = 0 then
 (some (h13, (0 : Int32)))
 else
 (bnd (f_X12_emits h13 ((((1000 : Int32) * r3) + ((100 : Int32) * (r7 - (60 : Int32)))) + (hI h13 52 12))) fun h17 _ =>
 (bnd (f_X12_whole h17) fun h19 _ =>
 (some (h19, (1 : Int32)))))))))))))))
set_option maxRecDepth 100000 in
set_option maxHeartbeats 4000000 in
theorem k_X12_takesTest {ω : XO} (hω : ω.2.2.2.1 = 0) {L : List Nat} {q : Nat → Nat} {h h' : hp}  {r : Int32} (hf : f_X12_takesTest h = some (h', r)) : XM ω yX12_takesTest cX12_takesTest 3 (some .boolean) rm_X12_takesTest L q h [.ref (q 52)] (some (.int r)) h' := by
  refine XM_intro [(0, .ref (q 52))] "SignalBlindModel" (by decide) rfl rfl (Nat.le_of_ble_eq_true rfl) (fun κ X R => ?_)
  unfold f_X12_takesTest at hf
  refine x_aload_n X dX12_takesTest_0 0 rfl rfl ?_
  refine x_aload_n X dX12_takesTest_1 0 rfl rfl ?_
  obtain ⟨r1, g2, hf⟩ := bnr_some hf
  refine c_X12_215 X hω g2 (hR := ⟨Nat.le_of_ble_eq_true rfl, Nat.le_of_ble_eq_true rfl⟩) ⟨Nat.zero_le _, Nat.zero_le _⟩ (Nat.le_of_ble_eq_true rfl) dX12_takesTest_2 ?_
  obtain ⟨r3, g4, hf⟩ := bnr_some hf
  refine c_X12_230 X hω g4 (hR := ⟨Nat.le_of_ble_eq_true rfl, Nat.le_of_ble_eq_true rfl⟩) ⟨Nat.zero_le _, Nat.zero_le _⟩ (Nat.le_of_ble_eq_true rfl) dX12_takesTest_5 ?_
  refine x_istore_n X [(1, .int r3), (0, .ref (q 52))] dX12_takesTest_8 rfl (Nat.le_of_ble_eq_true rfl) rfl ?_
  refine x_iload_n X dX12_takesTest_9 0 rfl rfl ?_
  refine x_if_ge X 15 dX12_takesTest_10 (by decide) (fun c5 => ?_) (fun c5 => ?_)
  · replace hf := (if_pos c5).symm.trans hf
    refine x_iconst X (v := 0) dX12_takesTest_13 (by decide) ?_
    exact x_retSZ X R (by decide) hf dX12_takesTest_14
  · replace hf := (if_neg c5).symm.trans hf
    refine x_aload_n X dX12_takesTest_15 1 rfl rfl ?_
    refine x_dup X dX12_takesTest_16 rfl ?_
    refine x_geti X (i := 52) fl_X12_44_13 (sdM_52 hω) (ks_52 _) rfl dX12_takesTest_17 ?_
    refine x_iconst X (v := 1) dX12_takesTest_20 (by decide) ?_
    refine x_iadd X dX12_takesTest_21 ?_
    refine x_puti X (i := 52) fl_X12_44_13 fw_13 (sdM_52 hω) (ks_52 _) rfl rfl rfl rfl dX12_takesTest_22 ?_
    obtain ⟨h6, eh6, hf⟩ := nm_some hf
    refine x_nmh eh6 ?_
    refine x_aload_n X dX12_takesTest_25 1 rfl rfl ?_
    obtain ⟨r7, g8, hf⟩ := bnr_some hf
    refine c_X12_215 X hω g8 (hR := ⟨Nat.le_of_ble_eq_true rfl, Nat.le_of_ble_eq_true rfl⟩) ⟨Nat.zero_le _, Nat.zero_le _⟩ (Nat.le_of_ble_eq_true rfl) dX12_takesTest_26 ?_
    refine x_istore_n X [(2, .int r7), (1, .int r3), (0, .ref (q 52))] dX12_takesTest_29 rfl (Nat.le_of_ble_eq_true rfl) rfl ?_
    refine x_aload_n X dX12_takesTest_30 2 rfl rfl ?_
    refine x_iload_n X dX12_takesTest_31 0 rfl rfl ?_
    refine x_bipush X (v := 60) dX12_takesTest_32 (by decide) ?_
    refine x_bipush X (v := 62) dX12_takesTest_34 (by decide) ?_
    obtain ⟨r9, g10, hf⟩ := bnr_some hf
    refine c_X12_201 X hω g10 (hR := ⟨Nat.le_of_ble_eq_true rfl, Nat.le_of_ble_eq_true rfl⟩) ⟨Nat.zero_le _, Nat.zero_le _⟩ (Nat.le_of_ble_eq_true rfl) dX12_takesTest_36 ?_
    refine x_if_ne X 44 dX12_takesTest_39 (by decide) (fun c11 => ?_) (fun c11 => ?_)
    · replace hf := (if_pos c11).symm.trans hf
      refine x_iconst X (v := 0) dX12_takesTest_42 (by decide) ?_
      exact x_retSZ X R (by decide) hf dX12_takesTest_43
    · replace hf := (if_neg c11).symm.trans hf
      refine x_aload_n X dX12_takesTest_44 2 rfl rfl ?_
      refine x_dup X dX12_takesTest_45 rfl ?_
      refine x_geti X (i := 52) fl_X12_44_13 (sdM_52 hω) (ks_52 _) rfl dX12_takesTest_46 ?_
      refine x_iconst X (v := 1) dX12_takesTest_49 (by decide) ?_
      refine x_iadd X dX12_takesTest_50 ?_
      refine x_puti X (i := 52) fl_X12_44_13 fw_13 (sdM_52 hω) (ks_52 _) rfl rfl rfl rfl dX12_takesTest_51 ?_
      obtain ⟨h12, eh12, hf⟩ := nm_some hf
      refine x_nmh eh12 ?_
      refine x_aload_n X dX12_takesTest_54 2 rfl rfl ?_
      obtain ⟨h13, r14, g15, hf⟩ := bnd_some hf
      refine c_X12_234 X hω g15 (hR := ⟨Nat.le_of_ble_eq_true rfl, Nat.le_of_ble_eq_true rfl⟩) ⟨Nat.zero_le _, Nat.zero_le _⟩ (Nat.le_of_ble_eq_true rfl) dX12_takesTest_55 ?_
      refine x_if_ne X 63 dX12_takesTest_58 (by decide) (fun c16 => ?_) (fun c16 => ?_)
      · replace hf := (if_pos c16).symm.trans hf
        refine x_iconst X (v := 0) dX12_takesTest_61 (by decide) ?_
        exact x_retSZ X R (by decide) hf dX12_takesTest_62
      · replace hf := (if_neg c16).symm.trans hf
        refine x_aload_n X dX12_takesTest_63 2 rfl rfl ?_
        refine x_sipush X (v := 1000) dX12_takesTest_64 (by decide) ?_
        refine x_iload_n X dX12_takesTest_67 1 rfl rfl ?_
        refine x_imul X dX12_takesTest_68 ?_
        refine x_bipush X (v := 100) dX12_takesTest_69 (by decide) ?_
        refine x_iload_n X dX12_takesTest_71 0 rfl rfl ?_
        refine x_bipush X (v := 60) dX12_takesTest_72 (by decide) ?_
        refine x_isub X dX12_takesTest_74 ?_
        refine x_imul X dX12_takesTest_75 ?_
        refine x_iadd X dX12_takesTest_76 ?_
        refine x_aload_n X dX12_takesTest_77 2 rfl rfl ?_
        refine x_geti X (i := 52) fl_X12_47_13 (sdM_52 hω) (ks_52 _) rfl dX12_takesTest_78 ?_
        refine x_iadd X dX12_takesTest_81 ?_
        obtain ⟨h17, uh17, g18, hf⟩ := bnd_some hf
        refine c_X12_226 X hω g18 (hR := ⟨Nat.le_of_ble_eq_true rfl, Nat.le_of_ble_eq_true rfl⟩) ⟨Nat.zero_le _, Nat.zero_le _⟩ (Nat.le_of_ble_eq_true rfl) dX12_takesTest_82 ?_
        refine x_aload_n X dX12_takesTest_85 2 rfl rfl ?_
        obtain ⟨h19, uh19, g20, hf⟩ := bnd_some hf
        refine c_X12_237 X hω g20 (hR := ⟨Nat.le_of_ble_eq_true rfl, Nat.le_of_ble_eq_true rfl⟩) ⟨Nat.zero_le _, Nat.zero_le _⟩ (Nat.le_of_ble_eq_true rfl) dX12_takesTest_86 ?_
        refine x_iconst X (v := 1) dX12_takesTest_89 (by decide) ?_
        exact x_retSZ X R (by decide) hf dX12_takesTest_90
theorem mt_X12_takesTest : MT yX12_takesTest cX12_takesTest 3 (some .boolean) "SignalBlindModel" 0 := ⟨(mT_6 62 rfl rfl), (mTp (q := (yX12_takesTest, 61)) (by decide +kernel) rfl), (mT_1 10 rfl rfl), (mT_6 63 rfl rfl), by decide⟩
theorem c_X12_240 {ω : XO} {rm : Room} {nL : Nat} {κ : XK} {cc : ByteArray} (X : XC ω rm nL κ cc "SignalBlindModel") (hω : ω.2.2.2.1 = 0) {L : List Nat} {q : Nat → Nat} {h h' : hp} {cells slots pc : Nat} {lv : List (Nat × Value)} {rest : List Value}  {r : Int32} (hf : f_X12_takesTest h = some (h', r)) (hR : rm_X12_takesTest.frames + 1 ≤ rm.frames ∧ 8 + (3 + 11) + rm_X12_takesTest.locals ≤ rm.locals) (hcs : cells ≤ rm.cells ∧ slots ≤ rm.slots) (hroom : (rest.map fun v => v.category).sum ≤ 8) (hd : decode cc pc = .ok (.invokevirtual 240, 3)) (kk : XG ω rm nL κ L q h' cells slots (pc + 3) lv (.int r :: rest)) : XG ω rm nL κ L q h cells slots pc lv (.ref (q 52) :: rest) := x_callV X [] rest (k_X12_takesTest hω hf) mt_X12_takesTest (mT_6 60 rfl rfl) hR ⟨rfl, rfl⟩ hcs (sdM_52 hω) (ks_52 _) (by decide) rfl rfl hroom hd kk

abbrev rm_X12_takesE : Room := { frames := 4, cells := 0, slots := 0, locals := 86 }
def f_X12_takesE_122 (k22 : hp → Int32 → Int32 → Option (hp × Int32)) (h : hp) (a11 : Int32) (a12 : Int32) : Option (hp × Int32) := (bnd (f_X12_settle h a12) fun h13 _ =>
 (chk (hI h13 52 22) 101
 (nm (tI h13 65 ((hI h13 52 22)).toNatClampNeg a12) fun h16 =>
 (nm (sI h16 52 22 ((hI h16 52 22) + (1 : Int32))) fun h17 =>
 (nm (sI h17 52 11 ((hI h17 52 11) + (1 : Int32))) fun h18 =>
 (k22 h18 a11 (1 : Int32)))))))
def f_X12_takesE_43 (k22 : hp → Int32 → Int32 → Option (hp × Int32)) (h : hp) (a32 : Int32) (a33 : Int32) (a34 : Int32) : Option (hp × Int32) := (if (hI h 52 23) = (4 : Int32) then
 (some (h, (0 : Int32)))
 else
 (nm (sI h 52 23 ((hI h 52 23) + (1 : Int32))) fun h36 =>
 (chk (hI h36 52 22) 101
 (nm (tI h36 65 ((hI h36 52 22)).toNatClampNeg a34) fun h38 =>
 (nm (sI h38 52 22 ((hI h38 52 22) + (1 : Int32))) fun h39 =>
 (nm (sI h39 52 11 ((hI h39 52 11) + (1 : Int32))) fun h40 =>
 (k22 h40 a32 a33)))))))
def f_X12_takesE_22 : Nat → hp → Int32 → Int32 → Option (hp × Int32)
  | 0, _, _, _ => none
  | n + 1, h, a5, a6 => (bnr (f_X12_next h) fun r7 =>
 (if a6 = 0 then
 (if r7 = (38 : Int32) then
 (f_X12_takesE_122 (f_X12_takesE_22 n) h a5 r7)
 else
 (if r7 = (124 : Int32) then
 (f_X12_takesE_122 (f_X12_takesE_22 n) h a5 r7)
 else
 (bnd (f_X12_settle h (124 : Int32)) fun h20 _ =>
 (chk a5 60
 (nm (tI h20 63 (a5).toNatClampNeg (hI h20 52 21)) fun h23 =>
 (if (hI h23 52 22) = 0 then
 (some (h23, (1 : Int32)))
 else
 (if r7 = (41 : Int32) then
 (nm (sI h23 52 22 ((hI h23 52 22) - (1 : Int32))) fun h26 =>
 (nm (sI h26 52 23 ((hI h26 52 23) - (1 : Int32))) fun h27 =>
 (nm (sI h27 52 11 ((hI h27 52 11) + (1 : Int32))) fun h28 =>
 (bnd (f_X12_whole h28) fun h29 _ =>
 ((f_X12_takesE_22 n) h29 a5 a6)))))
 else
 (some (h23, (0 : Int32))))))))))
 else
 (if r7 = (33 : Int32) then
 (f_X12_takesE_43 (f_X12_takesE_22 n) h a5 a6 r7)
 else
 (if r7 = (40 : Int32) then
 (f_X12_takesE_43 (f_X12_takesE_22 n) h a5 a6 r7)
 else
 (bnd (f_X12_takesTest h) fun h42 r43 =>
 (if r43 = 0 then
 (some (h42, (0 : Int32)))
 else
 ((f_X12_takesE_22 n) h42 a5 (0 : Int32))))))))
def f_X12_takesE (h : hp) (p0 : Int32) : Option (hp × Int32) := (nm (sI h 52 22 (0 : Int32)) fun h1 =>
 (nm (sI h1 52 23 (0 : Int32)) fun h2 =>
 (chk p0 60
 (nm (tI h2 62 (p0).toNatClampNeg (hI h2 52 21)) fun h4 =>
 (f_X12_takesE_22 2000 h4 p0 (1 : Int32))))))
set_option maxRecDepth 100000 in
set_option maxHeartbeats 4000000 in
theorem k_X12_takesE_122 {ω : XO} (hω : ω.2.2.2.1 = 0) {κ : XK} (X : XC ω rm_X12_takesE 4 κ cX12_takesE "SignalBlindModel") {L : List Nat} {q : Nat → Nat} {h' : hp} {r : Int32} (R : XRet ω rm_X12_takesE κ (some .boolean) L q h' (some (.int r))) (k22 : hp → Int32 → Int32 → Option (hp × Int32)) (hk22 : ∀ (h : hp) (a5 : Int32) (a6 : Int32), k22 h a5 a6 = some (h', r) → XG ω rm_X12_takesE 4 κ L q h 0 0 22 [(0, .ref (q 52)), (1, .int a5), (2, .int a6)] []) : ∀ (h : hp) (a11 : Int32) (a12 : Int32), f_X12_takesE_122 k22 h a11 a12 = some (h', r) → XG ω rm_X12_takesE 4 κ L q h 0 0 122 [(0, .ref (q 52)), (1, .int a11), (3, .int a12)] [] := by
  intro h a11 a12 hf
  unfold f_X12_takesE_122 at hf
  refine x_aload_n X dX12_takesE_122 0 rfl rfl ?_
  refine x_iload_n X dX12_takesE_123 2 rfl rfl ?_
  obtain ⟨h13, uh13, g14, hf⟩ := bnd_some hf
  refine c_X12_243 X hω g14 (hR := ⟨Nat.le_of_ble_eq_true rfl, Nat.le_of_ble_eq_true rfl⟩) ⟨Nat.zero_le _, Nat.zero_le _⟩ (Nat.le_of_ble_eq_true rfl) dX12_takesE_124 ?_
  refine x_aload_n X dX12_takesE_127 0 rfl rfl ?_
  refine x_getsj X (i := 52) 13 fl_X12_71_13 (sdM_52 hω) (ks_52 _) rfl (j := 65) rfl dX12_takesE_128 ?_
  refine x_aload_n X dX12_takesE_131 0 rfl rfl ?_
  refine x_geti X (i := 52) fl_X12_77_13 (sdM_52 hω) (ks_52 _) rfl dX12_takesE_132 ?_
  refine x_iload_n X dX12_takesE_135 2 rfl rfl ?_
  obtain ⟨z15, hf⟩ := chk_some hf
  refine x_iast X (i := 65) (n := 101) (sdM_65 hω) (ks_65 _) z15 dX12_takesE_136 ?_
  obtain ⟨h16, eh16, hf⟩ := nm_some hf
  refine x_nmh eh16 ?_
  refine x_aload_n X dX12_takesE_137 0 rfl rfl ?_
  refine x_dup X dX12_takesE_138 rfl ?_
  refine x_geti X (i := 52) fl_X12_77_13 (sdM_52 hω) (ks_52 _) rfl dX12_takesE_139 ?_
  refine x_iconst X (v := 1) dX12_takesE_142 (by decide) ?_
  refine x_iadd X dX12_takesE_143 ?_
  refine x_puti X (i := 52) fl_X12_77_13 fw_13 (sdM_52 hω) (ks_52 _) rfl rfl rfl rfl dX12_takesE_144 ?_
  obtain ⟨h17, eh17, hf⟩ := nm_some hf
  refine x_nmh eh17 ?_
  refine x_iconst X (v := 1) dX12_takesE_147 (by decide) ?_
  refine x_istore_n X [(2, .int (1 : Int32)), (0, .ref (q 52)), (1, .int a11), (3, .int a12)] dX12_takesE_148 rfl (Nat.le_of_ble_eq_true rfl) rfl ?_
  refine x_aload_n X dX12_takesE_149 1 rfl rfl ?_
  refine x_dup X dX12_takesE_150 rfl ?_
  refine x_geti X (i := 52) fl_X12_44_13 (sdM_52 hω) (ks_52 _) rfl dX12_takesE_151 ?_
  refine x_iconst X (v := 1) dX12_takesE_154 (by decide) ?_
  refine x_iadd X dX12_takesE_155 ?_
  refine x_puti X (i := 52) fl_X12_44_13 fw_13 (sdM_52 hω) (ks_52 _) rfl rfl rfl rfl dX12_takesE_156 ?_
  obtain ⟨h18, eh18, hf⟩ := nm_some hf
  refine x_nmh eh18 ?_
  refine x_goto X 22 dX12_takesE_159 (by decide) ?_
  refine x_lv [1, 2, 0] rfl ?_
  exact hk22 h18 _ _ hf
set_option maxRecDepth 100000 in
set_option maxHeartbeats 4000000 in
theorem k_X12_takesE_43 {ω : XO} (hω : ω.2.2.2.1 = 0) {κ : XK} (X : XC ω rm_X12_takesE 4 κ cX12_takesE "SignalBlindModel") {L : List Nat} {q : Nat → Nat} {h' : hp} {r : Int32} (R : XRet ω rm_X12_takesE κ (some .boolean) L q h' (some (.int r))) (k22 : hp → Int32 → Int32 → Option (hp × Int32)) (hk22 : ∀ (h : hp) (a5 : Int32) (a6 : Int32), k22 h a5 a6 = some (h', r) → XG ω rm_X12_takesE 4 κ L q h 0 0 22 [(0, .ref (q 52)), (1, .int a5), (2, .int a6)] []) : ∀ (h : hp) (a32 : Int32) (a33 : Int32) (a34 : Int32), f_X12_takesE_43 k22 h a32 a33 a34 = some (h', r) → XG ω rm_X12_takesE 4 κ L q h 0 0 43 [(0, .ref (q 52)), (1, .int a32), (2, .int a33), (3, .int a34)] [] := by
  intro h a32 a33 a34 hf
  unfold f_X12_takesE_43 at hf
  refine x_aload_n X dX12_takesE_43 0 rfl rfl ?_
  refine x_geti X (i := 52) fl_X12_80_13 (sdM_52 hω) (ks_52 _) rfl dX12_takesE_44 ?_
  refine x_iconst X (v := 4) dX12_takesE_47 (by decide) ?_
  refine x_icmp_ne X 53 dX12_takesE_48 (by decide) (fun c35 => ?_) (fun c35 => ?_)
  · replace hf := (if_pos c35).symm.trans hf
    refine x_iconst X (v := 0) dX12_takesE_51 (by decide) ?_
    exact x_retSZ X R (by decide) hf dX12_takesE_52
  · replace hf := (if_neg c35).symm.trans hf
    refine x_aload_n X dX12_takesE_53 0 rfl rfl ?_
    refine x_dup X dX12_takesE_54 rfl ?_
    refine x_geti X (i := 52) fl_X12_80_13 (sdM_52 hω) (ks_52 _) rfl dX12_takesE_55 ?_
    refine x_iconst X (v := 1) dX12_takesE_58 (by decide) ?_
    refine x_iadd X dX12_takesE_59 ?_
    refine x_puti X (i := 52) fl_X12_80_13 fw_13 (sdM_52 hω) (ks_52 _) rfl rfl rfl rfl dX12_takesE_60 ?_
    obtain ⟨h36, eh36, hf⟩ := nm_some hf
    refine x_nmh eh36 ?_
    refine x_aload_n X dX12_takesE_63 0 rfl rfl ?_
    refine x_getsj X (i := 52) 13 fl_X12_71_13 (sdM_52 hω) (ks_52 _) rfl (j := 65) rfl dX12_takesE_64 ?_
    refine x_aload_n X dX12_takesE_67 0 rfl rfl ?_
    refine x_geti X (i := 52) fl_X12_77_13 (sdM_52 hω) (ks_52 _) rfl dX12_takesE_68 ?_
    refine x_iload_n X dX12_takesE_71 3 rfl rfl ?_
    obtain ⟨z37, hf⟩ := chk_some hf
    refine x_iast X (i := 65) (n := 101) (sdM_65 hω) (ks_65 _) z37 dX12_takesE_72 ?_
    obtain ⟨h38, eh38, hf⟩ := nm_some hf
    refine x_nmh eh38 ?_
    refine x_aload_n X dX12_takesE_73 0 rfl rfl ?_
    refine x_dup X dX12_takesE_74 rfl ?_
    refine x_geti X (i := 52) fl_X12_77_13 (sdM_52 hω) (ks_52 _) rfl dX12_takesE_75 ?_
    refine x_iconst X (v := 1) dX12_takesE_78 (by decide) ?_
    refine x_iadd X dX12_takesE_79 ?_
    refine x_puti X (i := 52) fl_X12_77_13 fw_13 (sdM_52 hω) (ks_52 _) rfl rfl rfl rfl dX12_takesE_80 ?_
    obtain ⟨h39, eh39, hf⟩ := nm_some hf
    refine x_nmh eh39 ?_
    refine x_aload_n X dX12_takesE_83 0 rfl rfl ?_
    refine x_dup X dX12_takesE_84 rfl ?_
    refine x_geti X (i := 52) fl_X12_44_13 (sdM_52 hω) (ks_52 _) rfl dX12_takesE_85 ?_
    refine x_iconst X (v := 1) dX12_takesE_88 (by decide) ?_
    refine x_iadd X dX12_takesE_89 ?_
    refine x_puti X (i := 52) fl_X12_44_13 fw_13 (sdM_52 hω) (ks_52 _) rfl rfl rfl rfl dX12_takesE_90 ?_
    obtain ⟨h40, eh40, hf⟩ := nm_some hf
    refine x_nmh eh40 ?_
    refine x_goto X 22 dX12_takesE_93 (by decide) ?_
    refine x_lv [0, 1, 2] rfl ?_
    exact hk22 h40 _ _ hf
set_option maxRecDepth 100000 in
set_option maxHeartbeats 4000000 in
theorem k_X12_takesE_22 {ω : XO} (hω : ω.2.2.2.1 = 0) {κ : XK} (X : XC ω rm_X12_takesE 4 κ cX12_takesE "SignalBlindModel") {L : List Nat} {q : Nat → Nat} {h' : hp} {r : Int32} (R : XRet ω rm_X12_takesE κ (some .boolean) L q h' (some (.int r))) : ∀ (n : Nat) (h : hp) (a5 : Int32) (a6 : Int32), f_X12_takesE_22 n h a5 a6 = some (h', r) → XG ω rm_X12_takesE 4 κ L q h 0 0 22 [(0, .ref (q 52)), (1, .int a5), (2, .int a6)] [] := by
  intro n
  induction n with
  | zero =>
    intro h a5 a6 hf
    have hf : (none : Option (hp × Int32)) = some (h', r) := hf
    cases hf
  | succ n ih =>
    intro h a5 a6 hf
    rw [f_X12_takesE_22] at hf
    refine x_aload_n X dX12_takesE_22 0 rfl rfl ?_
    obtain ⟨r7, g8, hf⟩ := bnr_some hf
    refine c_X12_215 X hω g8 (hR := ⟨Nat.le_of_ble_eq_true rfl, Nat.le_of_ble_eq_true rfl⟩) ⟨Nat.zero_le _, Nat.zero_le _⟩ (Nat.le_of_ble_eq_true rfl) dX12_takesE_23 ?_
    refine x_istore_n X [(3, .int r7), (0, .ref (q 52)), (1, .int a5), (2, .int a6)] dX12_takesE_26 rfl (Nat.le_of_ble_eq_true rfl) rfl ?_
    refine x_iload_n X dX12_takesE_27 3 rfl rfl ?_
    refine x_if_eq X 110 dX12_takesE_28 (by decide) (fun c9 => ?_) (fun c9 => ?_)
    · replace hf := (if_pos c9).symm.trans hf
      refine x_iload_n X dX12_takesE_110 0 rfl rfl ?_
      refine x_bipush X (v := 38) dX12_takesE_111 (by decide) ?_
      refine x_icmp_eq X 122 dX12_takesE_113 (by decide) (fun c10 => ?_) (fun c10 => ?_)
      · replace hf := (if_pos c10).symm.trans hf
        refine x_lv [1, 2, 0] rfl ?_
        exact k_X12_takesE_122 hω X R _ ih h _ _ hf
      · replace hf := (if_neg c10).symm.trans hf
        refine x_iload_n X dX12_takesE_116 0 rfl rfl ?_
        refine x_bipush X (v := 124) dX12_takesE_117 (by decide) ?_
        refine x_icmp_ne X 162 dX12_takesE_119 (by decide) (fun c19 => ?_) (fun c19 => ?_)
        · replace hf := (if_pos c19).symm.trans hf
          refine x_lv [1, 2, 0] rfl ?_
          exact k_X12_takesE_122 hω X R _ ih h _ _ hf
        · replace hf := (if_neg c19).symm.trans hf
          refine x_aload_n X dX12_takesE_162 1 rfl rfl ?_
          refine x_bipush X (v := 124) dX12_takesE_163 (by decide) ?_
          obtain ⟨h20, uh20, g21, hf⟩ := bnd_some hf
          refine c_X12_243 X hω g21 (hR := ⟨Nat.le_of_ble_eq_true rfl, Nat.le_of_ble_eq_true rfl⟩) ⟨Nat.zero_le _, Nat.zero_le _⟩ (Nat.le_of_ble_eq_true rfl) dX12_takesE_165 ?_
          refine x_aload_n X dX12_takesE_168 1 rfl rfl ?_
          refine x_getsj X (i := 52) 11 fl_X12_65_13 (sdM_52 hω) (ks_52 _) rfl (j := 63) rfl dX12_takesE_169 ?_
          refine x_iload_n X dX12_takesE_172 2 rfl rfl ?_
          refine x_aload_n X dX12_takesE_173 1 rfl rfl ?_
          refine x_geti X (i := 52) fl_X12_74_13 (sdM_52 hω) (ks_52 _) rfl dX12_takesE_174 ?_
          obtain ⟨z22, hf⟩ := chk_some hf
          refine x_iast X (i := 63) (n := 60) (sdM_63 hω) (ks_63 _) z22 dX12_takesE_177 ?_
          obtain ⟨h23, eh23, hf⟩ := nm_some hf
          refine x_nmh eh23 ?_
          refine x_aload_n X dX12_takesE_178 1 rfl rfl ?_
          refine x_geti X (i := 52) fl_X12_77_13 (sdM_52 hω) (ks_52 _) rfl dX12_takesE_179 ?_
          refine x_if_ne X 187 dX12_takesE_182 (by decide) (fun c24 => ?_) (fun c24 => ?_)
          · replace hf := (if_pos c24).symm.trans hf
            refine x_iconst X (v := 1) dX12_takesE_185 (by decide) ?_
            exact x_retSZ X R (by decide) hf dX12_takesE_186
          · replace hf := (if_neg c24).symm.trans hf
            refine x_iload_n X dX12_takesE_187 0 rfl rfl ?_
            refine x_bipush X (v := 41) dX12_takesE_188 (by decide) ?_
            refine x_icmp_eq X 195 dX12_takesE_190 (by decide) (fun c25 => ?_) (fun c25 => ?_)
            · replace hf := (if_pos c25).symm.trans hf
              refine x_aload_n X dX12_takesE_195 1 rfl rfl ?_
              refine x_dup X dX12_takesE_196 rfl ?_
              refine x_geti X (i := 52) fl_X12_77_13 (sdM_52 hω) (ks_52 _) rfl dX12_takesE_197 ?_
              refine x_iconst X (v := 1) dX12_takesE_200 (by decide) ?_
              refine x_isub X dX12_takesE_201 ?_
              refine x_puti X (i := 52) fl_X12_77_13 fw_13 (sdM_52 hω) (ks_52 _) rfl rfl rfl rfl dX12_takesE_202 ?_
              obtain ⟨h26, eh26, hf⟩ := nm_some hf
              refine x_nmh eh26 ?_
              refine x_aload_n X dX12_takesE_205 1 rfl rfl ?_
              refine x_dup X dX12_takesE_206 rfl ?_
              refine x_geti X (i := 52) fl_X12_80_13 (sdM_52 hω) (ks_52 _) rfl dX12_takesE_207 ?_
              refine x_iconst X (v := 1) dX12_takesE_210 (by decide) ?_
              refine x_isub X dX12_takesE_211 ?_
              refine x_puti X (i := 52) fl_X12_80_13 fw_13 (sdM_52 hω) (ks_52 _) rfl rfl rfl rfl dX12_takesE_212 ?_
              obtain ⟨h27, eh27, hf⟩ := nm_some hf
              refine x_nmh eh27 ?_
              refine x_aload_n X dX12_takesE_215 1 rfl rfl ?_
              refine x_dup X dX12_takesE_216 rfl ?_
              refine x_geti X (i := 52) fl_X12_44_13 (sdM_52 hω) (ks_52 _) rfl dX12_takesE_217 ?_
              refine x_iconst X (v := 1) dX12_takesE_220 (by decide) ?_
              refine x_iadd X dX12_takesE_221 ?_
              refine x_puti X (i := 52) fl_X12_44_13 fw_13 (sdM_52 hω) (ks_52 _) rfl rfl rfl rfl dX12_takesE_222 ?_
              obtain ⟨h28, eh28, hf⟩ := nm_some hf
              refine x_nmh eh28 ?_
              refine x_aload_n X dX12_takesE_225 1 rfl rfl ?_
              obtain ⟨h29, uh29, g30, hf⟩ := bnd_some hf
              refine c_X12_237 X hω g30 (hR := ⟨Nat.le_of_ble_eq_true rfl, Nat.le_of_ble_eq_true rfl⟩) ⟨Nat.zero_le _, Nat.zero_le _⟩ (Nat.le_of_ble_eq_true rfl) dX12_takesE_226 ?_
              refine x_goto X 22 dX12_takesE_229 (by decide) ?_
              refine x_lv [1, 2, 3] rfl ?_
              exact ih h29 _ _ hf
            · replace hf := (if_neg c25).symm.trans hf
              refine x_iconst X (v := 0) dX12_takesE_193 (by decide) ?_
              exact x_retSZ X R (by decide) hf dX12_takesE_194
    · replace hf := (if_neg c9).symm.trans hf
      refine x_iload_n X dX12_takesE_31 0 rfl rfl ?_
      refine x_bipush X (v := 33) dX12_takesE_32 (by decide) ?_
      refine x_icmp_eq X 43 dX12_takesE_34 (by decide) (fun c31 => ?_) (fun c31 => ?_)
      · replace hf := (if_pos c31).symm.trans hf
        refine x_lv [1, 2, 3, 0] rfl ?_
        exact k_X12_takesE_43 hω X R _ ih h _ _ _ hf
      · replace hf := (if_neg c31).symm.trans hf
        refine x_iload_n X dX12_takesE_37 0 rfl rfl ?_
        refine x_bipush X (v := 40) dX12_takesE_38 (by decide) ?_
        refine x_icmp_ne X 96 dX12_takesE_40 (by decide) (fun c41 => ?_) (fun c41 => ?_)
        · replace hf := (if_pos c41).symm.trans hf
          refine x_lv [1, 2, 3, 0] rfl ?_
          exact k_X12_takesE_43 hω X R _ ih h _ _ _ hf
        · replace hf := (if_neg c41).symm.trans hf
          refine x_aload_n X dX12_takesE_96 1 rfl rfl ?_
          obtain ⟨h42, r43, g44, hf⟩ := bnd_some hf
          refine c_X12_240 X hω g44 (hR := ⟨Nat.le_of_ble_eq_true rfl, Nat.le_of_ble_eq_true rfl⟩) ⟨Nat.zero_le _, Nat.zero_le _⟩ (Nat.le_of_ble_eq_true rfl) dX12_takesE_97 ?_
          refine x_if_eq X 108 dX12_takesE_100 (by decide) (fun c45 => ?_) (fun c45 => ?_)
          · replace hf := (if_pos c45).symm.trans hf
            refine x_iconst X (v := 0) dX12_takesE_108 (by decide) ?_
            exact x_retSZ X R (by decide) hf dX12_takesE_109
          · replace hf := (if_neg c45).symm.trans hf
            refine x_iconst X (v := 0) dX12_takesE_103 (by decide) ?_
            refine x_istore_n X [(2, .int (0 : Int32)), (3, .int r7), (0, .ref (q 52)), (1, .int a5)] dX12_takesE_104 rfl (Nat.le_of_ble_eq_true rfl) rfl ?_
            refine x_goto X 22 dX12_takesE_105 (by decide) ?_
            refine x_lv [2, 3, 0] rfl ?_
            exact ih h42 _ _ hf
set_option maxRecDepth 100000 in
set_option maxHeartbeats 4000000 in
theorem k_X12_takesE {ω : XO} (hω : ω.2.2.2.1 = 0) {L : List Nat} {q : Nat → Nat} {h h' : hp} {p0 : Int32} {r : Int32} (hf : f_X12_takesE h p0 = some (h', r)) : XM ω yX12_takesE cX12_takesE 4 (some .boolean) rm_X12_takesE L q h [.ref (q 52), .int p0] (some (.int r)) h' := by
  refine XM_intro [(0, .ref (q 52)), (1, .int p0)] "SignalBlindModel" (by decide) rfl rfl (Nat.le_of_ble_eq_true rfl) (fun κ X R => ?_)
  unfold f_X12_takesE at hf
  refine x_aload_n X dX12_takesE_0 0 rfl rfl ?_
  refine x_iconst X (v := 0) dX12_takesE_1 (by decide) ?_
  refine x_puti X (i := 52) fl_X12_77_13 fw_13 (sdM_52 hω) (ks_52 _) rfl rfl rfl rfl dX12_takesE_2 ?_
  obtain ⟨h1, eh1, hf⟩ := nm_some hf
  refine x_nmh eh1 ?_
  refine x_aload_n X dX12_takesE_5 0 rfl rfl ?_
  refine x_iconst X (v := 0) dX12_takesE_6 (by decide) ?_
  refine x_puti X (i := 52) fl_X12_80_13 fw_13 (sdM_52 hω) (ks_52 _) rfl rfl rfl rfl dX12_takesE_7 ?_
  obtain ⟨h2, eh2, hf⟩ := nm_some hf
  refine x_nmh eh2 ?_
  refine x_aload_n X dX12_takesE_10 0 rfl rfl ?_
  refine x_getsj X (i := 52) 10 fl_X12_62_13 (sdM_52 hω) (ks_52 _) rfl (j := 62) rfl dX12_takesE_11 ?_
  refine x_iload_n X dX12_takesE_14 1 rfl rfl ?_
  refine x_aload_n X dX12_takesE_15 0 rfl rfl ?_
  refine x_geti X (i := 52) fl_X12_74_13 (sdM_52 hω) (ks_52 _) rfl dX12_takesE_16 ?_
  obtain ⟨z3, hf⟩ := chk_some hf
  refine x_iast X (i := 62) (n := 60) (sdM_62 hω) (ks_62 _) z3 dX12_takesE_19 ?_
  obtain ⟨h4, eh4, hf⟩ := nm_some hf
  refine x_nmh eh4 ?_
  refine x_iconst X (v := 1) dX12_takesE_20 (by decide) ?_
  refine x_istore_n X [(2, .int (1 : Int32)), (0, .ref (q 52)), (1, .int p0)] dX12_takesE_21 rfl (Nat.le_of_ble_eq_true rfl) rfl ?_
  refine x_lv [1, 2, 0] rfl ?_
  exact k_X12_takesE_22 hω X R _ h4 _ _ hf
theorem mt_X12_takesE : MT yX12_takesE cX12_takesE 4 (some .boolean) "SignalBlindModel" 1 := ⟨(mT_6 58 rfl rfl), (mTp (q := (yX12_takesE, 61)) (by decide +kernel) rfl), (mT_1 10 rfl rfl), (mT_6 59 rfl rfl), by decide⟩
theorem c_X12_252 {ω : XO} {rm : Room} {nL : Nat} {κ : XK} {cc : ByteArray} (X : XC ω rm nL κ cc "SignalBlindModel") (hω : ω.2.2.2.1 = 0) {L : List Nat} {q : Nat → Nat} {h h' : hp} {cells slots pc : Nat} {lv : List (Nat × Value)} {rest : List Value} {p0 : Int32} {r : Int32} (hf : f_X12_takesE h p0 = some (h', r)) (hR : rm_X12_takesE.frames + 1 ≤ rm.frames ∧ 8 + (4 + 11) + rm_X12_takesE.locals ≤ rm.locals) (hcs : cells ≤ rm.cells ∧ slots ≤ rm.slots) (hroom : (rest.map fun v => v.category).sum ≤ 8) (hd : decode cc pc = .ok (.invokevirtual 252, 3)) (kk : XG ω rm nL κ L q h' cells slots (pc + 3) lv (.int r :: rest)) : XG ω rm nL κ L q h cells slots pc lv (.int p0 :: .ref (q 52) :: rest) := x_callV X [.int p0] rest (k_X12_takesE hω hf) mt_X12_takesE (mT_6 56 rfl rfl) hR ⟨rfl, rfl⟩ hcs (sdM_52 hω) (ks_52 _) (by decide) rfl rfl hroom hd kk

abbrev rm_X12_takesHead : Room := { frames := 3, cells := 0, slots := 0, locals := 64 }
def f_X12_takesHead (h : hp) (p0 : Int32) : Option (hp × Int32) := (bnr (f_X12_next h) fun r1 =>
 (if r1 = (111 : Int32) then
 (chk p0 60
 (nm (tI h 60 (p0).toNatClampNeg (0 : Int32)) fun h5 =>
 (bnd (f_X12_takesWord h5 (0 : Int32) (4 : Int32)) fun h6 r7 =>
 (ckZ r7
 (some (h6, r7))))))
 else
 (if r1 = (115 : Int32) then
 (chk p0 60
 (nm (tI h 60 (p0).toNatClampNeg (1 : Int32)) fun h12 =>
 (bnd (f_X12_takesWord h12 (4 : Int32) (4 : Int32)) fun h13 r14 =>
 (ckZ r14
 (some (h13, r14))))))
 else
 (if r1 = (116 : Int32) then
 (chk p0 60
 (nm (tI h 60 (p0).toNatClampNeg (2 : Int32)) fun h19 =>
 (bnd (f_X12_takesWord h19 (8 : Int32) (4 : Int32)) fun h20 r21 =>
 (ckZ r21
 (some (h20, r21))))))
 else
 (chk p0 60
 (nm (tI h 60 (p0).toNatClampNeg (3 : Int32)) fun h25 =>
 (bnd (f_X12_takesWord h25 (12 : Int32) (4 : Int32)) fun h26 r27 =>
 (ckZ r27
 (some (h26, r27))))))))))
set_option maxRecDepth 100000 in
set_option maxHeartbeats 4000000 in
theorem k_X12_takesHead {ω : XO} (hω : ω.2.2.2.1 = 0) {L : List Nat} {q : Nat → Nat} {h h' : hp} {p0 : Int32} {r : Int32} (hf : f_X12_takesHead h p0 = some (h', r)) : XM ω yX12_takesHead cX12_takesHead 2 (some .boolean) rm_X12_takesHead L q h [.ref (q 52), .int p0] (some (.int r)) h' := by
  refine XM_intro [(0, .ref (q 52)), (1, .int p0)] "SignalBlindModel" (by decide) rfl rfl (Nat.le_of_ble_eq_true rfl) (fun κ X R => ?_)
  unfold f_X12_takesHead at hf
  refine x_aload_n X dX12_takesHead_0 0 rfl rfl ?_
  obtain ⟨r1, g2, hf⟩ := bnr_some hf
  refine c_X12_215 X hω g2 (hR := ⟨Nat.le_of_ble_eq_true rfl, Nat.le_of_ble_eq_true rfl⟩) ⟨Nat.zero_le _, Nat.zero_le _⟩ (Nat.le_of_ble_eq_true rfl) dX12_takesHead_1 ?_
  by_cases s3 : r1 = (111 : Int32)
  · replace hf := (if_pos s3).symm.trans hf
    refine x_lsw X (off := 36) 40 dX12_takesHead_4 (by decide) (by rw [s3]; decide) (by decide) ?_
    refine x_aload_n X dX12_takesHead_40 0 rfl rfl ?_
    refine x_getsj X (i := 52) 8 fl_X12_56_13 (sdM_52 hω) (ks_52 _) rfl (j := 60) rfl dX12_takesHead_41 ?_
    refine x_iload_n X dX12_takesHead_44 1 rfl rfl ?_
    refine x_iconst X (v := 0) dX12_takesHead_45 (by decide) ?_
    obtain ⟨z4, hf⟩ := chk_some hf
    refine x_iast X (i := 60) (n := 60) (sdM_60 hω) (ks_60 _) z4 dX12_takesHead_46 ?_
    obtain ⟨h5, eh5, hf⟩ := nm_some hf
    refine x_nmh eh5 ?_
    refine x_aload_n X dX12_takesHead_47 0 rfl rfl ?_
    refine x_iconst X (v := 0) dX12_takesHead_48 (by decide) ?_
    refine x_iconst X (v := 4) dX12_takesHead_49 (by decide) ?_
    obtain ⟨h6, r7, g8, hf⟩ := bnd_some hf
    refine c_X12_246 X hω g8 (hR := ⟨Nat.le_of_ble_eq_true rfl, Nat.le_of_ble_eq_true rfl⟩) ⟨Nat.zero_le _, Nat.zero_le _⟩ (Nat.le_of_ble_eq_true rfl) dX12_takesHead_50 ?_
    obtain ⟨z9, hf⟩ := ckZ_some hf
    exact x_retSZ X R z9 hf dX12_takesHead_53
  · replace hf := (if_neg s3).symm.trans hf
    by_cases s10 : r1 = (115 : Int32)
    · replace hf := (if_pos s10).symm.trans hf
      refine x_lsw X (off := 50) 54 dX12_takesHead_4 (by decide) (by rw [s10]; decide) (by decide) ?_
      refine x_aload_n X dX12_takesHead_54 0 rfl rfl ?_
      refine x_getsj X (i := 52) 8 fl_X12_56_13 (sdM_52 hω) (ks_52 _) rfl (j := 60) rfl dX12_takesHead_55 ?_
      refine x_iload_n X dX12_takesHead_58 1 rfl rfl ?_
      refine x_iconst X (v := 1) dX12_takesHead_59 (by decide) ?_
      obtain ⟨z11, hf⟩ := chk_some hf
      refine x_iast X (i := 60) (n := 60) (sdM_60 hω) (ks_60 _) z11 dX12_takesHead_60 ?_
      obtain ⟨h12, eh12, hf⟩ := nm_some hf
      refine x_nmh eh12 ?_
      refine x_aload_n X dX12_takesHead_61 0 rfl rfl ?_
      refine x_iconst X (v := 4) dX12_takesHead_62 (by decide) ?_
      refine x_iconst X (v := 4) dX12_takesHead_63 (by decide) ?_
      obtain ⟨h13, r14, g15, hf⟩ := bnd_some hf
      refine c_X12_246 X hω g15 (hR := ⟨Nat.le_of_ble_eq_true rfl, Nat.le_of_ble_eq_true rfl⟩) ⟨Nat.zero_le _, Nat.zero_le _⟩ (Nat.le_of_ble_eq_true rfl) dX12_takesHead_64 ?_
      obtain ⟨z16, hf⟩ := ckZ_some hf
      exact x_retSZ X R z16 hf dX12_takesHead_67
    · replace hf := (if_neg s10).symm.trans hf
      by_cases s17 : r1 = (116 : Int32)
      · replace hf := (if_pos s17).symm.trans hf
        refine x_lsw X (off := 64) 68 dX12_takesHead_4 (by decide) (by rw [s17]; decide) (by decide) ?_
        refine x_aload_n X dX12_takesHead_68 0 rfl rfl ?_
        refine x_getsj X (i := 52) 8 fl_X12_56_13 (sdM_52 hω) (ks_52 _) rfl (j := 60) rfl dX12_takesHead_69 ?_
        refine x_iload_n X dX12_takesHead_72 1 rfl rfl ?_
        refine x_iconst X (v := 2) dX12_takesHead_73 (by decide) ?_
        obtain ⟨z18, hf⟩ := chk_some hf
        refine x_iast X (i := 60) (n := 60) (sdM_60 hω) (ks_60 _) z18 dX12_takesHead_74 ?_
        obtain ⟨h19, eh19, hf⟩ := nm_some hf
        refine x_nmh eh19 ?_
        refine x_aload_n X dX12_takesHead_75 0 rfl rfl ?_
        refine x_bipush X (v := 8) dX12_takesHead_76 (by decide) ?_
        refine x_iconst X (v := 4) dX12_takesHead_78 (by decide) ?_
        obtain ⟨h20, r21, g22, hf⟩ := bnd_some hf
        refine c_X12_246 X hω g22 (hR := ⟨Nat.le_of_ble_eq_true rfl, Nat.le_of_ble_eq_true rfl⟩) ⟨Nat.zero_le _, Nat.zero_le _⟩ (Nat.le_of_ble_eq_true rfl) dX12_takesHead_79 ?_
        obtain ⟨z23, hf⟩ := ckZ_some hf
        exact x_retSZ X R z23 hf dX12_takesHead_82
      · replace hf := (if_neg s17).symm.trans hf
        refine x_lsw X (off := 79) 83 dX12_takesHead_4 (by decide) ((lv_osw s3 (by decide)).trans ((lv_osw s10 (by decide)).trans ((lv_osw s17 (by decide)).trans rfl))) (by decide) ?_
        refine x_aload_n X dX12_takesHead_83 0 rfl rfl ?_
        refine x_getsj X (i := 52) 8 fl_X12_56_13 (sdM_52 hω) (ks_52 _) rfl (j := 60) rfl dX12_takesHead_84 ?_
        refine x_iload_n X dX12_takesHead_87 1 rfl rfl ?_
        refine x_iconst X (v := 3) dX12_takesHead_88 (by decide) ?_
        obtain ⟨z24, hf⟩ := chk_some hf
        refine x_iast X (i := 60) (n := 60) (sdM_60 hω) (ks_60 _) z24 dX12_takesHead_89 ?_
        obtain ⟨h25, eh25, hf⟩ := nm_some hf
        refine x_nmh eh25 ?_
        refine x_aload_n X dX12_takesHead_90 0 rfl rfl ?_
        refine x_bipush X (v := 12) dX12_takesHead_91 (by decide) ?_
        refine x_iconst X (v := 4) dX12_takesHead_93 (by decide) ?_
        obtain ⟨h26, r27, g28, hf⟩ := bnd_some hf
        refine c_X12_246 X hω g28 (hR := ⟨Nat.le_of_ble_eq_true rfl, Nat.le_of_ble_eq_true rfl⟩) ⟨Nat.zero_le _, Nat.zero_le _⟩ (Nat.le_of_ble_eq_true rfl) dX12_takesHead_94 ?_
        obtain ⟨z29, hf⟩ := ckZ_some hf
        exact x_retSZ X R z29 hf dX12_takesHead_97
theorem mt_X12_takesHead : MT yX12_takesHead cX12_takesHead 2 (some .boolean) "SignalBlindModel" 1 := ⟨(mT_6 34 rfl rfl), (mTp (q := (yX12_takesHead, 61)) (by decide +kernel) rfl), (mT_1 10 rfl rfl), (mT_6 35 rfl rfl), by decide⟩
theorem c_X12_249 {ω : XO} {rm : Room} {nL : Nat} {κ : XK} {cc : ByteArray} (X : XC ω rm nL κ cc "SignalBlindModel") (hω : ω.2.2.2.1 = 0) {L : List Nat} {q : Nat → Nat} {h h' : hp} {cells slots pc : Nat} {lv : List (Nat × Value)} {rest : List Value} {p0 : Int32} {r : Int32} (hf : f_X12_takesHead h p0 = some (h', r)) (hR : rm_X12_takesHead.frames + 1 ≤ rm.frames ∧ 8 + (2 + 11) + rm_X12_takesHead.locals ≤ rm.locals) (hcs : cells ≤ rm.cells ∧ slots ≤ rm.slots) (hroom : (rest.map fun v => v.category).sum ≤ 8) (hd : decode cc pc = .ok (.invokevirtual 249, 3)) (kk : XG ω rm nL κ L q h' cells slots (pc + 3) lv (.int r :: rest)) : XG ω rm nL κ L q h cells slots pc lv (.int p0 :: .ref (q 52) :: rest) := x_callV X [.int p0] rest (k_X12_takesHead hω hf) mt_X12_takesHead (mT_6 32 rfl rfl) hR ⟨rfl, rfl⟩ hcs (sdM_52 hω) (ks_52 _) (by decide) rfl rfl hroom hd kk

abbrev rm_X12_takesClause : Room := { frames := 5, cells := 0, slots := 0, locals := 109 }
def f_X12_takesClause_15 (h : hp) : Option (hp × Int32) := (some (h, (0 : Int32)))
def f_X12_takesClause_59 (h : hp) (a13 : Int32) : Option (hp × Int32) := (ckZ a13
 (some (h, a13)))
def f_X12_takesClause_54 (h : hp) : Option (hp × Int32) := (f_X12_takesClause_59 h (1 : Int32))
def f_X12_takesClause_58 (h : hp) : Option (hp × Int32) := (f_X12_takesClause_59 h (0 : Int32))
def f_X12_takesClause (h : hp) (p0 : Int32) : Option (hp × Int32) := (bnd (f_X12_takesHead h p0) fun h1 r2 =>
 (if r2 = 0 then
 (f_X12_takesClause_15 h1)
 else
 (bnd (f_X12_takesNumber h1) fun h5 r6 =>
 (if r6 = 0 then
 (f_X12_takesClause_15 h5)
 else
 (chk p0 60
 (nm (tI h5 61 (p0).toNatClampNeg (hI h5 52 12)) fun h10 =>
 (chk p0 60
 (if (aI h10 60 (p0).toNatClampNeg) = (3 : Int32) then
 (f_X12_takesClause_54 h10)
 else
 (bnd (f_X12_takes h10 (32 : Int32)) fun h15 r16 =>
 (if r16 = 0 then
 (f_X12_takesClause_58 h15)
 else
 (bnd (f_X12_takesE h15 p0) fun h19 r20 =>
 (if r20 = 0 then
 (f_X12_takesClause_58 h19)
 else
 (f_X12_takesClause_54 h19)))))))))))))
set_option maxRecDepth 100000 in
set_option maxHeartbeats 4000000 in
theorem k_X12_takesClause_15 {ω : XO} (hω : ω.2.2.2.1 = 0) {κ : XK} (X : XC ω rm_X12_takesClause 2 κ cX12_takesClause "SignalBlindModel") {L : List Nat} {q : Nat → Nat} {h' : hp} {r : Int32} (R : XRet ω rm_X12_takesClause κ (some .boolean) L q h' (some (.int r))) : ∀ (h : hp), f_X12_takesClause_15 h = some (h', r) → XG ω rm_X12_takesClause 2 κ L q h 0 0 15 [] [] := by
  intro h hf
  unfold f_X12_takesClause_15 at hf
  refine x_iconst X (v := 0) dX12_takesClause_15 (by decide) ?_
  exact x_retSZ X R (by decide) hf dX12_takesClause_16
set_option maxRecDepth 100000 in
set_option maxHeartbeats 4000000 in
theorem k_X12_takesClause_59 {ω : XO} (hω : ω.2.2.2.1 = 0) {κ : XK} (X : XC ω rm_X12_takesClause 2 κ cX12_takesClause "SignalBlindModel") {L : List Nat} {q : Nat → Nat} {h' : hp} {r : Int32} (R : XRet ω rm_X12_takesClause κ (some .boolean) L q h' (some (.int r))) : ∀ (h : hp) (a13 : Int32), f_X12_takesClause_59 h a13 = some (h', r) → XG ω rm_X12_takesClause 2 κ L q h 0 0 59 [] [.int a13] := by
  intro h a13 hf
  unfold f_X12_takesClause_59 at hf
  obtain ⟨z14, hf⟩ := ckZ_some hf
  exact x_retSZ X R z14 hf dX12_takesClause_59
set_option maxRecDepth 100000 in
set_option maxHeartbeats 4000000 in
theorem k_X12_takesClause_54 {ω : XO} (hω : ω.2.2.2.1 = 0) {κ : XK} (X : XC ω rm_X12_takesClause 2 κ cX12_takesClause "SignalBlindModel") {L : List Nat} {q : Nat → Nat} {h' : hp} {r : Int32} (R : XRet ω rm_X12_takesClause κ (some .boolean) L q h' (some (.int r))) : ∀ (h : hp), f_X12_takesClause_54 h = some (h', r) → XG ω rm_X12_takesClause 2 κ L q h 0 0 54 [] [] := by
  intro h hf
  unfold f_X12_takesClause_54 at hf
  refine x_iconst X (v := 1) dX12_takesClause_54 (by decide) ?_
  refine x_goto X 59 dX12_takesClause_55 (by decide) ?_
  refine x_lv [] rfl ?_
  exact k_X12_takesClause_59 hω X R h _ hf
set_option maxRecDepth 100000 in
set_option maxHeartbeats 4000000 in
theorem k_X12_takesClause_58 {ω : XO} (hω : ω.2.2.2.1 = 0) {κ : XK} (X : XC ω rm_X12_takesClause 2 κ cX12_takesClause "SignalBlindModel") {L : List Nat} {q : Nat → Nat} {h' : hp} {r : Int32} (R : XRet ω rm_X12_takesClause κ (some .boolean) L q h' (some (.int r))) : ∀ (h : hp), f_X12_takesClause_58 h = some (h', r) → XG ω rm_X12_takesClause 2 κ L q h 0 0 58 [] [] := by
  intro h hf
  unfold f_X12_takesClause_58 at hf
  refine x_iconst X (v := 0) dX12_takesClause_58 (by decide) ?_
  refine x_lv [] rfl ?_
  exact k_X12_takesClause_59 hω X R h _ hf
set_option maxRecDepth 100000 in
set_option maxHeartbeats 4000000 in
theorem k_X12_takesClause {ω : XO} (hω : ω.2.2.2.1 = 0) {L : List Nat} {q : Nat → Nat} {h h' : hp} {p0 : Int32} {r : Int32} (hf : f_X12_takesClause h p0 = some (h', r)) : XM ω yX12_takesClause cX12_takesClause 2 (some .boolean) rm_X12_takesClause L q h [.ref (q 52), .int p0] (some (.int r)) h' := by
  refine XM_intro [(0, .ref (q 52)), (1, .int p0)] "SignalBlindModel" (by decide) rfl rfl (Nat.le_of_ble_eq_true rfl) (fun κ X R => ?_)
  unfold f_X12_takesClause at hf
  refine x_aload_n X dX12_takesClause_0 0 rfl rfl ?_
  refine x_iload_n X dX12_takesClause_1 1 rfl rfl ?_
  obtain ⟨h1, r2, g3, hf⟩ := bnd_some hf
  refine c_X12_249 X hω g3 (hR := ⟨Nat.le_of_ble_eq_true rfl, Nat.le_of_ble_eq_true rfl⟩) ⟨Nat.zero_le _, Nat.zero_le _⟩ (Nat.le_of_ble_eq_true rfl) dX12_takesClause_2 ?_
  refine x_if_eq X 15 dX12_takesClause_5 (by decide) (fun c4 => ?_) (fun c4 => ?_)
  · replace hf := (if_pos c4).symm.trans hf
    refine x_lv [] rfl ?_
    exact k_X12_takesClause_15 hω X R h1 hf
  · replace hf := (if_neg c4).symm.trans hf
    refine x_aload_n X dX12_takesClause_8 0 rfl rfl ?_
    obtain ⟨h5, r6, g7, hf⟩ := bnd_some hf
    refine c_X12_234 X hω g7 (hR := ⟨Nat.le_of_ble_eq_true rfl, Nat.le_of_ble_eq_true rfl⟩) ⟨Nat.zero_le _, Nat.zero_le _⟩ (Nat.le_of_ble_eq_true rfl) dX12_takesClause_9 ?_
    refine x_if_ne X 17 dX12_takesClause_12 (by decide) (fun c8 => ?_) (fun c8 => ?_)
    · replace hf := (if_pos c8).symm.trans hf
      refine x_lv [] rfl ?_
      exact k_X12_takesClause_15 hω X R h5 hf
    · replace hf := (if_neg c8).symm.trans hf
      refine x_aload_n X dX12_takesClause_17 0 rfl rfl ?_
      refine x_getsj X (i := 52) 9 fl_X12_59_13 (sdM_52 hω) (ks_52 _) rfl (j := 61) rfl dX12_takesClause_18 ?_
      refine x_iload_n X dX12_takesClause_21 1 rfl rfl ?_
      refine x_aload_n X dX12_takesClause_22 0 rfl rfl ?_
      refine x_geti X (i := 52) fl_X12_47_13 (sdM_52 hω) (ks_52 _) rfl dX12_takesClause_23 ?_
      obtain ⟨z9, hf⟩ := chk_some hf
      refine x_iast X (i := 61) (n := 60) (sdM_61 hω) (ks_61 _) z9 dX12_takesClause_26 ?_
      obtain ⟨h10, eh10, hf⟩ := nm_some hf
      refine x_nmh eh10 ?_
      refine x_aload_n X dX12_takesClause_27 0 rfl rfl ?_
      refine x_getsj X (i := 52) 8 fl_X12_56_13 (sdM_52 hω) (ks_52 _) rfl (j := 60) rfl dX12_takesClause_28 ?_
      refine x_iload_n X dX12_takesClause_31 1 rfl rfl ?_
      obtain ⟨z11, hf⟩ := chk_some hf
      refine x_iald X (i := 60) (n := 60) (sdM_60 hω) (ks_60 _) z11 dX12_takesClause_32 ?_
      refine x_iconst X (v := 3) dX12_takesClause_33 (by decide) ?_
      refine x_icmp_eq X 54 dX12_takesClause_34 (by decide) (fun c12 => ?_) (fun c12 => ?_)
      · replace hf := (if_pos c12).symm.trans hf
        refine x_lv [] rfl ?_
        exact k_X12_takesClause_54 hω X R h10 hf
      · replace hf := (if_neg c12).symm.trans hf
        refine x_aload_n X dX12_takesClause_37 0 rfl rfl ?_
        refine x_bipush X (v := 32) dX12_takesClause_38 (by decide) ?_
        obtain ⟨h15, r16, g17, hf⟩ := bnd_some hf
        refine c_X12_219 X hω g17 (hR := ⟨Nat.le_of_ble_eq_true rfl, Nat.le_of_ble_eq_true rfl⟩) ⟨Nat.zero_le _, Nat.zero_le _⟩ (Nat.le_of_ble_eq_true rfl) dX12_takesClause_40 ?_
        refine x_if_eq X 58 dX12_takesClause_43 (by decide) (fun c18 => ?_) (fun c18 => ?_)
        · replace hf := (if_pos c18).symm.trans hf
          refine x_lv [] rfl ?_
          exact k_X12_takesClause_58 hω X R h15 hf
        · replace hf := (if_neg c18).symm.trans hf
          refine x_aload_n X dX12_takesClause_46 0 rfl rfl ?_
          refine x_iload_n X dX12_takesClause_47 1 rfl rfl ?_
          obtain ⟨h19, r20, g21, hf⟩ := bnd_some hf
          refine c_X12_252 X hω g21 (hR := ⟨Nat.le_of_ble_eq_true rfl, Nat.le_of_ble_eq_true rfl⟩) ⟨Nat.zero_le _, Nat.zero_le _⟩ (Nat.le_of_ble_eq_true rfl) dX12_takesClause_48 ?_
          refine x_if_eq X 58 dX12_takesClause_51 (by decide) (fun c22 => ?_) (fun c22 => ?_)
          · replace hf := (if_pos c22).symm.trans hf
            refine x_lv [] rfl ?_
            exact k_X12_takesClause_58 hω X R h19 hf
          · replace hf := (if_neg c22).symm.trans hf
            refine x_lv [] rfl ?_
            exact k_X12_takesClause_54 hω X R h19 hf
theorem mt_X12_takesClause : MT yX12_takesClause cX12_takesClause 2 (some .boolean) "SignalBlindModel" 1 := ⟨(mT_6 30 rfl rfl), (mTp (q := (yX12_takesClause, 61)) (by decide +kernel) rfl), (mT_1 10 rfl rfl), (mT_6 31 rfl rfl), by decide⟩
theorem c_X12_255 {ω : XO} {rm : Room} {nL : Nat} {κ : XK} {cc : ByteArray} (X : XC ω rm nL κ cc "SignalBlindModel") (hω : ω.2.2.2.1 = 0) {L : List Nat} {q : Nat → Nat} {h h' : hp} {cells slots pc : Nat} {lv : List (Nat × Value)} {rest : List Value} {p0 : Int32} {r : Int32} (hf : f_X12_takesClause h p0 = some (h', r)) (hR : rm_X12_takesClause.frames + 1 ≤ rm.frames ∧ 8 + (2 + 11) + rm_X12_takesClause.locals ≤ rm.locals) (hcs : cells ≤ rm.cells ∧ slots ≤ rm.slots) (hroom : (rest.map fun v => v.category).sum ≤ 8) (hd : decode cc pc = .ok (.invokevirtual 255, 3)) (kk : XG ω rm nL κ L q h' cells slots (pc + 3) lv (.int r :: rest)) : XG ω rm nL κ L q h cells slots pc lv (.int p0 :: .ref (q 52) :: rest) := x_callV X [.int p0] rest (k_X12_takesClause hω hf) mt_X12_takesClause (mT_6 28 rfl rfl) hR ⟨rfl, rfl⟩ hcs (sdM_52 hω) (ks_52 _) (by decide) rfl rfl hroom hd kk

abbrev rm_X12_goesText : Room := { frames := 6, cells := 0, slots := 0, locals := 130 }
def f_X12_goesText_68 (h : hp) : Option (hp × Int32) := (some (h, (0 : Int32)))
def f_X12_goesText_15 : Nat → hp → Int32 → Int32 → Option (hp × Int32)
  | 0, _, _, _ => none
  | n + 1, h, a3, a4 => (bnd (f_X12_takesClause h (((10 : Int32) * a3) + a4)) fun h5 r6 =>
 (if r6 = 0 then
 (some (h5, (0 : Int32)))
 else
 (nm (a4 + (1 : Int32)) fun v9 =>
 (chk a3 6
 (nm (tI h5 59 (a3).toNatClampNeg v9) fun h11 =>
 (if (hI h11 52 11) = (hI h11 52 10) then
 (some (h11, (1 : Int32)))
 else
 (if v9 = (10 : Int32) then
 (f_X12_goesText_68 h11)
 else
 (bnd (f_X12_takes h11 (59 : Int32)) fun h14 r15 =>
 (if r15 = 0 then
 (f_X12_goesText_68 h14)
 else
 ((f_X12_goesText_15 n) h14 a3 v9))))))))))
def f_X12_goesText (h : hp) (p0 : Int32) : Option (hp × Int32) := (nm (sI h 52 11 (0 : Int32)) fun h1 =>
 (nm (sI h1 52 21 ((100 : Int32) * p0)) fun h2 =>
 (f_X12_goesText_15 2000 h2 p0 (0 : Int32))))
set_option maxRecDepth 100000 in
set_option maxHeartbeats 4000000 in
theorem k_X12_goesText_68 {ω : XO} (hω : ω.2.2.2.1 = 0) {κ : XK} (X : XC ω rm_X12_goesText 3 κ cX12_goesText "SignalBlindModel") {L : List Nat} {q : Nat → Nat} {h' : hp} {r : Int32} (R : XRet ω rm_X12_goesText κ (some .boolean) L q h' (some (.int r))) : ∀ (h : hp), f_X12_goesText_68 h = some (h', r) → XG ω rm_X12_goesText 3 κ L q h 0 0 68 [] [] := by
  intro h hf
  unfold f_X12_goesText_68 at hf
  refine x_iconst X (v := 0) dX12_goesText_68 (by decide) ?_
  exact x_retSZ X R (by decide) hf dX12_goesText_69
set_option maxRecDepth 100000 in
set_option maxHeartbeats 4000000 in
theorem k_X12_goesText_15 {ω : XO} (hω : ω.2.2.2.1 = 0) {κ : XK} (X : XC ω rm_X12_goesText 3 κ cX12_goesText "SignalBlindModel") {L : List Nat} {q : Nat → Nat} {h' : hp} {r : Int32} (R : XRet ω rm_X12_goesText κ (some .boolean) L q h' (some (.int r))) : ∀ (n : Nat) (h : hp) (a3 : Int32) (a4 : Int32), f_X12_goesText_15 n h a3 a4 = some (h', r) → XG ω rm_X12_goesText 3 κ L q h 0 0 15 [(0, .ref (q 52)), (1, .int a3), (2, .int a4)] [] := by
  intro n
  induction n with
  | zero =>
    intro h a3 a4 hf
    have hf : (none : Option (hp × Int32)) = some (h', r) := hf
    cases hf
  | succ n ih =>
    intro h a3 a4 hf
    rw [f_X12_goesText_15] at hf
    refine x_aload_n X dX12_goesText_15 0 rfl rfl ?_
    refine x_bipush X (v := 10) dX12_goesText_16 (by decide) ?_
    refine x_iload_n X dX12_goesText_18 1 rfl rfl ?_
    refine x_imul X dX12_goesText_19 ?_
    refine x_iload_n X dX12_goesText_20 2 rfl rfl ?_
    refine x_iadd X dX12_goesText_21 ?_
    obtain ⟨h5, r6, g7, hf⟩ := bnd_some hf
    refine c_X12_255 X hω g7 (hR := ⟨Nat.le_of_ble_eq_true rfl, Nat.le_of_ble_eq_true rfl⟩) ⟨Nat.zero_le _, Nat.zero_le _⟩ (Nat.le_of_ble_eq_true rfl) dX12_goesText_22 ?_
    refine x_if_ne X 30 dX12_goesText_25 (by decide) (fun c8 => ?_) (fun c8 => ?_)
    · replace hf := (if_pos c8).symm.trans hf
      refine x_iconst X (v := 0) dX12_goesText_28 (by decide) ?_
      exact x_retSZ X R (by decide) hf dX12_goesText_29
    · replace hf := (if_neg c8).symm.trans hf
      obtain ⟨v9, ev9, hf⟩ := nm_some hf
      refine x_iincN X (v := 1) ev9 [(2, .int v9), (0, .ref (q 52)), (1, .int a3)] dX12_goesText_30 2 rfl (by decide) (Nat.le_of_ble_eq_true rfl) rfl ?_
      refine x_aload_n X dX12_goesText_33 1 rfl rfl ?_
      refine x_getsj X (i := 52) 7 fl_X12_53_13 (sdM_52 hω) (ks_52 _) rfl (j := 59) rfl dX12_goesText_34 ?_
      refine x_iload_n X dX12_goesText_37 2 rfl rfl ?_
      refine x_iload_n X dX12_goesText_38 0 rfl rfl ?_
      obtain ⟨z10, hf⟩ := chk_some hf
      refine x_iast X (i := 59) (n := 6) (sdM_59 hω) (ks_59 _) z10 dX12_goesText_39 ?_
      obtain ⟨h11, eh11, hf⟩ := nm_some hf
      refine x_nmh eh11 ?_
      refine x_aload_n X dX12_goesText_40 1 rfl rfl ?_
      refine x_geti X (i := 52) fl_X12_44_13 (sdM_52 hω) (ks_52 _) rfl dX12_goesText_41 ?_
      refine x_aload_n X dX12_goesText_44 1 rfl rfl ?_
      refine x_geti X (i := 52) fl_X12_41_13 (sdM_52 hω) (ks_52 _) rfl dX12_goesText_45 ?_
      refine x_icmp_ne X 53 dX12_goesText_48 (by decide) (fun c12 => ?_) (fun c12 => ?_)
      · replace hf := (if_pos c12).symm.trans hf
        refine x_iconst X (v := 1) dX12_goesText_51 (by decide) ?_
        exact x_retSZ X R (by decide) hf dX12_goesText_52
      · replace hf := (if_neg c12).symm.trans hf
        refine x_iload_n X dX12_goesText_53 0 rfl rfl ?_
        refine x_bipush X (v := 10) dX12_goesText_54 (by decide) ?_
        refine x_icmp_eq X 68 dX12_goesText_56 (by decide) (fun c13 => ?_) (fun c13 => ?_)
        · replace hf := (if_pos c13).symm.trans hf
          refine x_lv [] rfl ?_
          exact k_X12_goesText_68 hω X R h11 hf
        · replace hf := (if_neg c13).symm.trans hf
          refine x_aload_n X dX12_goesText_59 1 rfl rfl ?_
          refine x_bipush X (v := 59) dX12_goesText_60 (by decide) ?_
          obtain ⟨h14, r15, g16, hf⟩ := bnd_some hf
          refine c_X12_219 X hω g16 (hR := ⟨Nat.le_of_ble_eq_true rfl, Nat.le_of_ble_eq_true rfl⟩) ⟨Nat.zero_le _, Nat.zero_le _⟩ (Nat.le_of_ble_eq_true rfl) dX12_goesText_62 ?_
          refine x_if_ne X 15 dX12_goesText_65 (by decide) (fun c17 => ?_) (fun c17 => ?_)
          · replace hf := (if_pos c17).symm.trans hf
            refine x_lv [] rfl ?_
            exact k_X12_goesText_68 hω X R h14 hf
          · replace hf := (if_neg c17).symm.trans hf
            refine x_lv [1, 2, 0] rfl ?_
            exact ih h14 _ _ hf
set_option maxRecDepth 100000 in
set_option maxHeartbeats 4000000 in
theorem k_X12_goesText {ω : XO} (hω : ω.2.2.2.1 = 0) {L : List Nat} {q : Nat → Nat} {h h' : hp} {p0 : Int32} {r : Int32} (hf : f_X12_goesText h p0 = some (h', r)) : XM ω yX12_goesText cX12_goesText 3 (some .boolean) rm_X12_goesText L q h [.ref (q 52), .int p0] (some (.int r)) h' := by
  refine XM_intro [(0, .ref (q 52)), (1, .int p0)] "SignalBlindModel" (by decide) rfl rfl (Nat.le_of_ble_eq_true rfl) (fun κ X R => ?_)
  unfold f_X12_goesText at hf
  refine x_aload_n X dX12_goesText_0 0 rfl rfl ?_
  refine x_iconst X (v := 0) dX12_goesText_1 (by decide) ?_
  refine x_puti X (i := 52) fl_X12_44_13 fw_13 (sdM_52 hω) (ks_52 _) rfl rfl rfl rfl dX12_goesText_2 ?_
  obtain ⟨h1, eh1, hf⟩ := nm_some hf
  refine x_nmh eh1 ?_
  refine x_aload_n X dX12_goesText_5 0 rfl rfl ?_
  refine x_bipush X (v := 100) dX12_goesText_6 (by decide) ?_
  refine x_iload_n X dX12_goesText_8 1 rfl rfl ?_
  refine x_imul X dX12_goesText_9 ?_
  refine x_puti X (i := 52) fl_X12_74_13 fw_13 (sdM_52 hω) (ks_52 _) rfl rfl rfl rfl dX12_goesText_10 ?_
  obtain ⟨h2, eh2, hf⟩ := nm_some hf
  refine x_nmh eh2 ?_
  refine x_iconst X (v := 0) dX12_goesText_13 (by decide) ?_
  refine x_istore_n X [(2, .int (0 : Int32)), (0, .ref (q 52)), (1, .int p0)] dX12_goesText_14 rfl (Nat.le_of_ble_eq_true rfl) rfl ?_
  refine x_lv [1, 2, 0] rfl ?_
  exact k_X12_goesText_15 hω X R _ h2 _ _ hf
theorem mt_X12_goesText : MT yX12_goesText cX12_goesText 3 (some .boolean) "SignalBlindModel" 1 := ⟨(mT_6 26 rfl rfl), (mTp (q := (yX12_goesText, 61)) (by decide +kernel) rfl), (mT_1 10 rfl rfl), (mT_6 27 rfl rfl), by decide⟩
theorem c_X12_258 {ω : XO} {rm : Room} {nL : Nat} {κ : XK} {cc : ByteArray} (X : XC ω rm nL κ cc "SignalBlindModel") (hω : ω.2.2.2.1 = 0) {L : List Nat} {q : Nat → Nat} {h h' : hp} {cells slots pc : Nat} {lv : List (Nat × Value)} {rest : List Value} {p0 : Int32} {r : Int32} (hf : f_X12_goesText h p0 = some (h', r)) (hR : rm_X12_goesText.frames + 1 ≤ rm.frames ∧ 8 + (3 + 11) + rm_X12_goesText.locals ≤ rm.locals) (hcs : cells ≤ rm.cells ∧ slots ≤ rm.slots) (hroom : (rest.map fun v => v.category).sum ≤ 8) (hd : decode cc pc = .ok (.invokevirtual 258, 3)) (kk : XG ω rm nL κ L q h' cells slots (pc + 3) lv (.int r :: rest)) : XG ω rm nL κ L q h cells slots pc lv (.int p0 :: .ref (q 52) :: rest) := x_callV X [.int p0] rest (k_X12_goesText hω hf) mt_X12_goesText (mT_6 24 rfl rfl) hR ⟨rfl, rfl⟩ hcs (sdM_52 hω) (ks_52 _) (by decide) rfl rfl hroom hd kk

abbrev rm_X12_ward : Room := { frames := 7, cells := 0, slots := 0, locals := 152 }
def f_X12_ward (h : hp) : Option (hp × Int32) := (if (hI h 52 8) = (6 : Int32) then
 (some (h, (-4 : Int32)))
 else
 (bnd (f_X12_goesText h (hI h 52 8)) fun h2 r3 =>
 (nm (sI h2 52 10 (0 : Int32)) fun h5 =>
 (if r3 = 0 then
 (some (h5, ((-10 : Int32) - (hI h5 52 11))))
 else
 (nm (sI h5 52 9 (hI h5 52 8)) fun h7 =>
 (nm (sI h7 52 8 ((hI h7 52 8) + (1 : Int32))) fun h8 =>
 (some (h8, (hI h8 52 9)))))))))
set_option maxRecDepth 100000 in
set_option maxHeartbeats 4000000 in
theorem k_X12_ward {ω : XO} (hω : ω.2.2.2.1 = 0) {L : List Nat} {q : Nat → Nat} {h h' : hp}  {r : Int32} (hf : f_X12_ward h = some (h', r)) : XM ω yX12_ward cX12_ward 2 (some .int) rm_X12_ward L q h [.ref (q 52)] (some (.int r)) h' := by
  refine XM_intro [(0, .ref (q 52))] "SignalBlindModel" (by decide) rfl rfl (Nat.le_of_ble_eq_true rfl) (fun κ X R => ?_)
  unfold f_X12_ward at hf
  refine x_aload_n X dX12_ward_0 0 rfl rfl ?_
  refine x_geti X (i := 52) fl_X12_35_13 (sdM_52 hω) (ks_52 _) rfl dX12_ward_1 ?_
  refine x_bipush X (v := 6) dX12_ward_4 (by decide) ?_
  refine x_icmp_ne X 12 dX12_ward_6 (by decide) (fun c1 => ?_) (fun c1 => ?_)
  · replace hf := (if_pos c1).symm.trans hf
    refine x_bipush X (v := -4) dX12_ward_9 (by decide) ?_
    exact x_retSI X R hf dX12_ward_11
  · replace hf := (if_neg c1).symm.trans hf
    refine x_aload_n X dX12_ward_12 0 rfl rfl ?_
    refine x_aload_n X dX12_ward_13 0 rfl rfl ?_
    refine x_geti X (i := 52) fl_X12_35_13 (sdM_52 hω) (ks_52 _) rfl dX12_ward_14 ?_
    obtain ⟨h2, r3, g4, hf⟩ := bnd_some hf
    refine c_X12_258 X hω g4 (hR := ⟨Nat.le_of_ble_eq_true rfl, Nat.le_of_ble_eq_true rfl⟩) ⟨Nat.zero_le _, Nat.zero_le _⟩ (Nat.le_of_ble_eq_true rfl) dX12_ward_17 ?_
    refine x_istore_n X [(1, .int r3), (0, .ref (q 52))] dX12_ward_20 rfl (Nat.le_of_ble_eq_true rfl) rfl ?_
    refine x_aload_n X dX12_ward_21 1 rfl rfl ?_
    refine x_iconst X (v := 0) dX12_ward_22 (by decide) ?_
    refine x_puti X (i := 52) fl_X12_41_13 fw_13 (sdM_52 hω) (ks_52 _) rfl rfl rfl rfl dX12_ward_23 ?_
    obtain ⟨h5, eh5, hf⟩ := nm_some hf
    refine x_nmh eh5 ?_
    refine x_iload_n X dX12_ward_26 0 rfl rfl ?_
    refine x_if_ne X 38 dX12_ward_27 (by decide) (fun c6 => ?_) (fun c6 => ?_)
    · replace hf := (if_pos c6).symm.trans hf
      refine x_bipush X (v := -10) dX12_ward_30 (by decide) ?_
      refine x_aload_n X dX12_ward_32 1 rfl rfl ?_
      refine x_geti X (i := 52) fl_X12_44_13 (sdM_52 hω) (ks_52 _) rfl dX12_ward_33 ?_
      refine x_isub X dX12_ward_36 ?_
      exact x_retSI X R hf dX12_ward_37
    · replace hf := (if_neg c6).symm.trans hf
      refine x_aload_n X dX12_ward_38 1 rfl rfl ?_
      refine x_aload_n X dX12_ward_39 1 rfl rfl ?_
      refine x_geti X (i := 52) fl_X12_35_13 (sdM_52 hω) (ks_52 _) rfl dX12_ward_40 ?_
      refine x_puti X (i := 52) fl_X12_38_13 fw_13 (sdM_52 hω) (ks_52 _) rfl rfl rfl rfl dX12_ward_43 ?_
      obtain ⟨h7, eh7, hf⟩ := nm_some hf
      refine x_nmh eh7 ?_
      refine x_aload_n X dX12_ward_46 1 rfl rfl ?_
      refine x_dup X dX12_ward_47 rfl ?_
      refine x_geti X (i := 52) fl_X12_35_13 (sdM_52 hω) (ks_52 _) rfl dX12_ward_48 ?_
      refine x_iconst X (v := 1) dX12_ward_51 (by decide) ?_
      refine x_iadd X dX12_ward_52 ?_
      refine x_puti X (i := 52) fl_X12_35_13 fw_13 (sdM_52 hω) (ks_52 _) rfl rfl rfl rfl dX12_ward_53 ?_
      obtain ⟨h8, eh8, hf⟩ := nm_some hf
      refine x_nmh eh8 ?_
      refine x_aload_n X dX12_ward_56 1 rfl rfl ?_
      refine x_geti X (i := 52) fl_X12_38_13 (sdM_52 hω) (ks_52 _) rfl dX12_ward_57 ?_
      exact x_retSI X R hf dX12_ward_60
theorem mt_X12_ward : MT yX12_ward cX12_ward 2 (some .int) "SignalBlindModel" 0 := ⟨(mT_6 21 rfl rfl), (mT_6 22 rfl rfl), (mT_1 10 rfl rfl), (mT_6 23 rfl rfl), by decide⟩

abbrev rm_X12_begin : Room := { frames := 0, cells := 0, slots := 0, locals := 0 }
def f_X12_begin_18 (h : hp) (a2 : Int32) : Option Int32 := (some a2)
def f_X12_begin (h : hp) : Option Int32 := (if (hI h 52 9) < 0 then
 (f_X12_begin_18 h (0 : Int32))
 else
 (f_X12_begin_18 h ((10 : Int32) * (hI h 52 9))))
set_option maxRecDepth 100000 in
set_option maxHeartbeats 4000000 in
theorem k_X12_begin_18 {ω : XO} (hω : ω.2.2.2.1 = 0) {κ : XK} (X : XC ω rm_X12_begin 1 κ cX12_begin "SignalBlindModel") {L : List Nat} {q : Nat → Nat} {h : hp} {r : Int32} (R : XRet ω rm_X12_begin κ (some .int) L q h (some (.int r))) : ∀ (a2 : Int32), f_X12_begin_18 h a2 = some r → XG ω rm_X12_begin 1 κ L q h 0 0 18 [] [.int a2] := by
  intro a2 hf
  unfold f_X12_begin_18 at hf
  exact x_retRI X R hf dX12_begin_18
set_option maxRecDepth 100000 in
set_option maxHeartbeats 4000000 in
theorem k_X12_begin {ω : XO} (hω : ω.2.2.2.1 = 0) {L : List Nat} {q : Nat → Nat} {h : hp}  {r : Int32} (hf : f_X12_begin h = some r) : XM ω yX12_begin cX12_begin 1 (some .int) rm_X12_begin L q h [.ref (q 52)] (some (.int r)) h := by
  refine XM_intro [(0, .ref (q 52))] "SignalBlindModel" (by decide) rfl rfl (Nat.le_of_ble_eq_true rfl) (fun κ X R => ?_)
  unfold f_X12_begin at hf
  refine x_aload_n X dX12_begin_0 0 rfl rfl ?_
  refine x_geti X (i := 52) fl_X12_38_13 (sdM_52 hω) (ks_52 _) rfl dX12_begin_1 ?_
  refine x_if_ge X 11 dX12_begin_4 (by decide) (fun c1 => ?_) (fun c1 => ?_)
  · replace hf := (if_pos c1).symm.trans hf
    refine x_iconst X (v := 0) dX12_begin_7 (by decide) ?_
    refine x_goto X 18 dX12_begin_8 (by decide) ?_
    refine x_lv [] rfl ?_
    exact k_X12_begin_18 hω X R _ hf
  · replace hf := (if_neg c1).symm.trans hf
    refine x_bipush X (v := 10) dX12_begin_11 (by decide) ?_
    refine x_aload_n X dX12_begin_13 0 rfl rfl ?_
    refine x_geti X (i := 52) fl_X12_38_13 (sdM_52 hω) (ks_52 _) rfl dX12_begin_14 ?_
    refine x_imul X dX12_begin_17 ?_
    refine x_lv [] rfl ?_
    exact k_X12_begin_18 hω X R _ hf
theorem mt_X12_begin : MT yX12_begin cX12_begin 1 (some .int) "SignalBlindModel" 0 := ⟨(mT_6 102 rfl rfl), (mTp (q := (yX12_begin, 61)) (by decide +kernel) rfl), (mT_1 10 rfl rfl), (mT_6 103 rfl rfl), by decide⟩
theorem c_X12_261 {ω : XO} {rm : Room} {nL : Nat} {κ : XK} {cc : ByteArray} (X : XC ω rm nL κ cc "SignalBlindModel") (hω : ω.2.2.2.1 = 0) {L : List Nat} {q : Nat → Nat} {h : hp} {cells slots pc : Nat} {lv : List (Nat × Value)} {rest : List Value}  {r : Int32} (hf : f_X12_begin h = some r) (hR : rm_X12_begin.frames + 1 ≤ rm.frames ∧ 8 + (1 + 11) + rm_X12_begin.locals ≤ rm.locals) (hcs : cells ≤ rm.cells ∧ slots ≤ rm.slots) (hroom : (rest.map fun v => v.category).sum ≤ 8) (hd : decode cc pc = .ok (.invokevirtual 261, 3)) (kk : XG ω rm nL κ L q h cells slots (pc + 3) lv (.int r :: rest)) : XG ω rm nL κ L q h cells slots pc lv (.ref (q 52) :: rest) := x_callV X [] rest (k_X12_begin hω hf) mt_X12_begin (mT_6 100 rfl rfl) hR ⟨rfl, rfl⟩ hcs (sdM_52 hω) (ks_52 _) (by decide) rfl rfl hroom hd kk

abbrev rm_X12_behind : Room := { frames := 0, cells := 0, slots := 0, locals := 0 }
def f_X12_behind_28 (h : hp) (a2 : Int32) : Option Int32 := (some a2)
def f_X12_behind (h : hp) : Option Int32 := (if (hI h 52 9) < 0 then
 (f_X12_behind_28 h (0 : Int32))
 else
 (chk (hI h 52 9) 6
 (f_X12_behind_28 h (((10 : Int32) * (hI h 52 9)) + (aI h 59 ((hI h 52 9)).toNatClampNeg)))))
set_option maxRecDepth 100000 in
set_option maxHeartbeats 4000000 in
theorem k_X12_behind_28 {ω : XO} (hω : ω.2.2.2.1 = 0) {κ : XK} (X : XC ω rm_X12_behind 1 κ cX12_behind "SignalBlindModel") {L : List Nat} {q : Nat → Nat} {h : hp} {r : Int32} (R : XRet ω rm_X12_behind κ (some .int) L q h (some (.int r))) : ∀ (a2 : Int32), f_X12_behind_28 h a2 = some r → XG ω rm_X12_behind 1 κ L q h 0 0 28 [] [.int a2] := by
  intro a2 hf
  unfold f_X12_behind_28 at hf
  exact x_retRI X R hf dX12_behind_28
set_option maxRecDepth 100000 in
set_option maxHeartbeats 4000000 in
theorem k_X12_behind {ω : XO} (hω : ω.2.2.2.1 = 0) {L : List Nat} {q : Nat → Nat} {h : hp}  {r : Int32} (hf : f_X12_behind h = some r) : XM ω yX12_behind cX12_behind 1 (some .int) rm_X12_behind L q h [.ref (q 52)] (some (.int r)) h := by
  refine XM_intro [(0, .ref (q 52))] "SignalBlindModel" (by decide) rfl rfl (Nat.le_of_ble_eq_true rfl) (fun κ X R => ?_)
  unfold f_X12_behind at hf
  refine x_aload_n X dX12_behind_0 0 rfl rfl ?_
  refine x_geti X (i := 52) fl_X12_38_13 (sdM_52 hω) (ks_52 _) rfl dX12_behind_1 ?_
  refine x_if_ge X 11 dX12_behind_4 (by decide) (fun c1 => ?_) (fun c1 => ?_)
  · replace hf := (if_pos c1).symm.trans hf
    refine x_iconst X (v := 0) dX12_behind_7 (by decide) ?_
    refine x_goto X 28 dX12_behind_8 (by decide) ?_
    refine x_lv [] rfl ?_
    exact k_X12_behind_28 hω X R _ hf
  · replace hf := (if_neg c1).symm.trans hf
    refine x_bipush X (v := 10) dX12_behind_11 (by decide) ?_
    refine x_aload_n X dX12_behind_13 0 rfl rfl ?_
    refine x_geti X (i := 52) fl_X12_38_13 (sdM_52 hω) (ks_52 _) rfl dX12_behind_14 ?_
    refine x_imul X dX12_behind_17 ?_
    refine x_aload_n X dX12_behind_18 0 rfl rfl ?_
    refine x_getsj X (i := 52) 7 fl_X12_53_13 (sdM_52 hω) (ks_52 _) rfl (j := 59) rfl dX12_behind_19 ?_
    refine x_aload_n X dX12_behind_22 0 rfl rfl ?_
    refine x_geti X (i := 52) fl_X12_38_13 (sdM_52 hω) (ks_52 _) rfl dX12_behind_23 ?_
    obtain ⟨z3, hf⟩ := chk_some hf
    refine x_iald X (i := 59) (n := 6) (sdM_59 hω) (ks_59 _) z3 dX12_behind_26 ?_
    refine x_iadd X dX12_behind_27 ?_
    refine x_lv [] rfl ?_
    exact k_X12_behind_28 hω X R _ hf
theorem mt_X12_behind : MT yX12_behind cX12_behind 1 (some .int) "SignalBlindModel" 0 := ⟨(mT_6 106 rfl rfl), (mTp (q := (yX12_behind, 61)) (by decide +kernel) rfl), (mT_1 10 rfl rfl), (mT_6 107 rfl rfl), by decide⟩
theorem c_X12_264 {ω : XO} {rm : Room} {nL : Nat} {κ : XK} {cc : ByteArray} (X : XC ω rm nL κ cc "SignalBlindModel") (hω : ω.2.2.2.1 = 0) {L : List Nat} {q : Nat → Nat} {h : hp} {cells slots pc : Nat} {lv : List (Nat × Value)} {rest : List Value}  {r : Int32} (hf : f_X12_behind h = some r) (hR : rm_X12_behind.frames + 1 ≤ rm.frames ∧ 8 + (1 + 11) + rm_X12_behind.locals ≤ rm.locals) (hcs : cells ≤ rm.cells ∧ slots ≤ rm.slots) (hroom : (rest.map fun v => v.category).sum ≤ 8) (hd : decode cc pc = .ok (.invokevirtual 264, 3)) (kk : XG ω rm nL κ L q h cells slots (pc + 3) lv (.int r :: rest)) : XG ω rm nL κ L q h cells slots pc lv (.ref (q 52) :: rest) := x_callV X [] rest (k_X12_behind hω hf) mt_X12_behind (mT_6 104 rfl rfl) hR ⟨rfl, rfl⟩ hcs (sdM_52 hω) (ks_52 _) (by decide) rfl rfl hroom hd kk

abbrev rm_X12_near : Room := { frames := 1, cells := 0, slots := 0, locals := 20 }
def f_X12_near_35 (h : hp) (k7 : Int32 → Int32 → Option Int32) (a11 : Int32) (a12 : Int32) : Option Int32 := (nm (a11 + (1 : Int32)) fun v13 =>
 (k7 a12 v13))
def f_X12_near_7 (h : hp) : Nat → Int32 → Int32 → Option Int32
  | 0, _, _ => none
  | n + 1, a3, a4 => (bnr (f_X12_behind h) fun r5 =>
 (if a4 < r5 then
 (chk a4 60
 (if (aI h 60 (a4).toNatClampNeg) = (3 : Int32) then
 (chk a4 60
 (f_X12_near_35 h (f_X12_near_7 h n) a4 (aI h 61 (a4).toNatClampNeg)))
 else
 (f_X12_near_35 h (f_X12_near_7 h n) a4 a3)))
 else
 (some a3)))
def f_X12_near (h : hp) : Option Int32 := (bnr (f_X12_begin h) fun r1 =>
 (f_X12_near_7 h 2000 (2 : Int32) r1))
set_option maxRecDepth 100000 in
set_option maxHeartbeats 4000000 in
theorem k_X12_near_35 {ω : XO} (hω : ω.2.2.2.1 = 0) {κ : XK} (X : XC ω rm_X12_near 3 κ cX12_near "SignalBlindModel") {L : List Nat} {q : Nat → Nat} {h : hp} {r : Int32} (R : XRet ω rm_X12_near κ (some .int) L q h (some (.int r))) (k7 : Int32 → Int32 → Option Int32) (hk7 : ∀ (a3 : Int32) (a4 : Int32), k7 a3 a4 = some r → XG ω rm_X12_near 3 κ L q h 0 0 7 [(0, .ref (q 52)), (1, .int a3), (2, .int a4)] []) : ∀ (a11 : Int32) (a12 : Int32), f_X12_near_35 h k7 a11 a12 = some r → XG ω rm_X12_near 3 κ L q h 0 0 35 [(0, .ref (q 52)), (2, .int a11)] [.int a12] := by
  intro a11 a12 hf
  unfold f_X12_near_35 at hf
  refine x_istore_n X [(1, .int a12), (0, .ref (q 52)), (2, .int a11)] dX12_near_35 rfl (Nat.le_of_ble_eq_true rfl) rfl ?_
  obtain ⟨v13, ev13, hf⟩ := nm_some hf
  refine x_iincN X (v := 1) ev13 [(2, .int v13), (1, .int a12), (0, .ref (q 52))] dX12_near_36 2 rfl (by decide) (Nat.le_of_ble_eq_true rfl) rfl ?_
  refine x_goto X 7 dX12_near_39 (by decide) ?_
  refine x_lv [2, 1, 0] rfl ?_
  exact hk7 _ _ hf
set_option maxRecDepth 100000 in
set_option maxHeartbeats 4000000 in
theorem k_X12_near_7 {ω : XO} (hω : ω.2.2.2.1 = 0) {κ : XK} (X : XC ω rm_X12_near 3 κ cX12_near "SignalBlindModel") {L : List Nat} {q : Nat → Nat} {h : hp} {r : Int32} (R : XRet ω rm_X12_near κ (some .int) L q h (some (.int r))) : ∀ (n : Nat) (a3 : Int32) (a4 : Int32), f_X12_near_7 h n a3 a4 = some r → XG ω rm_X12_near 3 κ L q h 0 0 7 [(0, .ref (q 52)), (1, .int a3), (2, .int a4)] [] := by
  intro n
  induction n with
  | zero =>
    intro a3 a4 hf
    have hf : (none : Option Int32) = some r := hf
    cases hf
  | succ n ih =>
    intro a3 a4 hf
    rw [f_X12_near_7] at hf
    refine x_iload_n X dX12_near_7 2 rfl rfl ?_
    refine x_aload_n X dX12_near_8 0 rfl rfl ?_
    obtain ⟨r5, g6, hf⟩ := bnr_some hf
    refine c_X12_264 X hω g6 (hR := ⟨Nat.le_of_ble_eq_true rfl, Nat.le_of_ble_eq_true rfl⟩) ⟨Nat.zero_le _, Nat.zero_le _⟩ (Nat.le_of_ble_eq_true rfl) dX12_near_9 ?_
    refine x_icmp_ge X 42 dX12_near_12 (by decide) (fun c7 => ?_) (fun c7 => ?_)
    · replace hf := (if_pos c7).symm.trans hf
      refine x_aload_n X dX12_near_15 0 rfl rfl ?_
      refine x_getsj X (i := 52) 8 fl_X12_56_13 (sdM_52 hω) (ks_52 _) rfl (j := 60) rfl dX12_near_16 ?_
      refine x_iload_n X dX12_near_19 2 rfl rfl ?_
      obtain ⟨z8, hf⟩ := chk_some hf
      refine x_iald X (i := 60) (n := 60) (sdM_60 hω) (ks_60 _) z8 dX12_near_20 ?_
      refine x_iconst X (v := 3) dX12_near_21 (by decide) ?_
      refine x_icmp_ne X 34 dX12_near_22 (by decide) (fun c9 => ?_) (fun c9 => ?_)
      · replace hf := (if_pos c9).symm.trans hf
        refine x_aload_n X dX12_near_25 0 rfl rfl ?_
        refine x_getsj X (i := 52) 9 fl_X12_59_13 (sdM_52 hω) (ks_52 _) rfl (j := 61) rfl dX12_near_26 ?_
        refine x_iload_n X dX12_near_29 2 rfl rfl ?_
        obtain ⟨z10, hf⟩ := chk_some hf
        refine x_iald X (i := 61) (n := 60) (sdM_61 hω) (ks_61 _) z10 dX12_near_30 ?_
        refine x_goto X 35 dX12_near_31 (by decide) ?_
        refine x_lv [0, 2] rfl ?_
        exact k_X12_near_35 hω X R _ ih _ _ hf
      · replace hf := (if_neg c9).symm.trans hf
        refine x_iload_n X dX12_near_34 1 rfl rfl ?_
        refine x_lv [0, 2] rfl ?_
        exact k_X12_near_35 hω X R _ ih _ _ hf
    · replace hf := (if_neg c7).symm.trans hf
      refine x_iload_n X dX12_near_42 1 rfl rfl ?_
      exact x_retRI X R hf dX12_near_43
set_option maxRecDepth 100000 in
set_option maxHeartbeats 4000000 in
theorem k_X12_near {ω : XO} (hω : ω.2.2.2.1 = 0) {L : List Nat} {q : Nat → Nat} {h : hp}  {r : Int32} (hf : f_X12_near h = some r) : XM ω yX12_near cX12_near 3 (some .int) rm_X12_near L q h [.ref (q 52)] (some (.int r)) h := by
  refine XM_intro [(0, .ref (q 52))] "SignalBlindModel" (by decide) rfl rfl (Nat.le_of_ble_eq_true rfl) (fun κ X R => ?_)
  unfold f_X12_near at hf
  refine x_iconst X (v := 2) dX12_near_0 (by decide) ?_
  refine x_istore_n X [(1, .int (2 : Int32)), (0, .ref (q 52))] dX12_near_1 rfl (Nat.le_of_ble_eq_true rfl) rfl ?_
  refine x_aload_n X dX12_near_2 1 rfl rfl ?_
  obtain ⟨r1, g2, hf⟩ := bnr_some hf
  refine c_X12_261 X hω g2 (hR := ⟨Nat.le_of_ble_eq_true rfl, Nat.le_of_ble_eq_true rfl⟩) ⟨Nat.zero_le _, Nat.zero_le _⟩ (Nat.le_of_ble_eq_true rfl) dX12_near_3 ?_
  refine x_istore_n X [(2, .int r1), (1, .int (2 : Int32)), (0, .ref (q 52))] dX12_near_6 rfl (Nat.le_of_ble_eq_true rfl) rfl ?_
  refine x_lv [2, 1, 0] rfl ?_
  exact k_X12_near_7 hω X R _ _ _ hf
theorem mt_X12_near : MT yX12_near cX12_near 3 (some .int) "SignalBlindModel" 0 := ⟨(mT_6 138 rfl rfl), (mTp (q := (yX12_near, 61)) (by decide +kernel) rfl), (mT_1 10 rfl rfl), (mT_6 139 rfl rfl), by decide⟩
theorem c_X12_287 {ω : XO} {rm : Room} {nL : Nat} {κ : XK} {cc : ByteArray} (X : XC ω rm nL κ cc "SignalBlindModel") (hω : ω.2.2.2.1 = 0) {L : List Nat} {q : Nat → Nat} {h : hp} {cells slots pc : Nat} {lv : List (Nat × Value)} {rest : List Value}  {r : Int32} (hf : f_X12_near h = some r) (hR : rm_X12_near.frames + 1 ≤ rm.frames ∧ 8 + (3 + 11) + rm_X12_near.locals ≤ rm.locals) (hcs : cells ≤ rm.cells ∧ slots ≤ rm.slots) (hroom : (rest.map fun v => v.category).sum ≤ 8) (hd : decode cc pc = .ok (.invokevirtual 287, 3)) (kk : XG ω rm nL κ L q h cells slots (pc + 3) lv (.int r :: rest)) : XG ω rm nL κ L q h cells slots pc lv (.ref (q 52) :: rest) := x_callV X [] rest (k_X12_near hω hf) mt_X12_near (mT_6 136 rfl rfl) hR ⟨rfl, rfl⟩ hcs (sdM_52 hω) (ks_52 _) (by decide) rfl rfl hroom hd kk

abbrev rm_X12_factOf : Room := { frames := 2, cells := 0, slots := 0, locals := 45 }
def f_X12_factOf (h : hp) (p0 : Int32) (p1 : Int32) (p2 : Int32) : Option Int32 := (if p0 = (0 : Int32) then
 (some p1)
 else
 (if p0 = (1 : Int32) then
 (chk p1 5
 (some (aI h 54 (p1).toNatClampNeg)))
 else
 (if p0 = (2 : Int32) then
 (chk p1 5
 (some (aI h 55 (p1).toNatClampNeg)))
 else
 (if p0 = (3 : Int32) then
 (bnr (f_X12_bits h p2) fun r7 =>
 (some r7))
 else
 (if p0 = (4 : Int32) then
 (chk p1 5
 (nz (10 : Int32)
 (some ((aI h 56 (p1).toNatClampNeg) - (aI h 56 (p1).toNatClampNeg) / (10 : Int32) * (10 : Int32)))))
 else
 (nz (24 : Int32)
 (some ((hI h 52 2) - (hI h 52 2) / (24 : Int32) * (24 : Int32)))))))))
set_option maxRecDepth 100000 in
set_option maxHeartbeats 4000000 in
theorem k_X12_factOf {ω : XO} (hω : ω.2.2.2.1 = 0) {L : List Nat} {q : Nat → Nat} {h : hp} {p0 : Int32} {p1 : Int32} {p2 : Int32} {r : Int32} (hf : f_X12_factOf h p0 p1 p2 = some r) : XM ω yX12_factOf cX12_factOf 4 (some .int) rm_X12_factOf L q h [.ref (q 52), .int p0, .int p1, .int p2] (some (.int r)) h := by
  refine XM_intro [(0, .ref (q 52)), (1, .int p0), (2, .int p1), (3, .int p2)] "SignalBlindModel" (by decide) rfl rfl (Nat.le_of_ble_eq_true rfl) (fun κ X R => ?_)
  unfold f_X12_factOf at hf
  refine x_iload_n X dX12_factOf_0 1 rfl rfl ?_
  by_cases s1 : p0 = (0 : Int32)
  · replace hf := (if_pos s1).symm.trans hf
    refine x_tswI X (off := 35) 36 dX12_factOf_1 s1 (by decide) (by decide) (by decide) (by decide) ?_
    refine x_iload_n X dX12_factOf_36 2 rfl rfl ?_
    exact x_retRI X R hf dX12_factOf_37
  · replace hf := (if_neg s1).symm.trans hf
    by_cases s2 : p0 = (1 : Int32)
    · replace hf := (if_pos s2).symm.trans hf
      refine x_tswI X (off := 37) 38 dX12_factOf_1 s2 (by decide) (by decide) (by decide) (by decide) ?_
      refine x_aload_n X dX12_factOf_38 0 rfl rfl ?_
      refine x_getsj X (i := 52) 2 fl_X12_23_13 (sdM_52 hω) (ks_52 _) rfl (j := 54) rfl dX12_factOf_39 ?_
      refine x_iload_n X dX12_factOf_42 2 rfl rfl ?_
      obtain ⟨z3, hf⟩ := chk_some hf
      refine x_iald X (i := 54) (n := 5) (sdM_54 hω) (ks_54 _) z3 dX12_factOf_43 ?_
      exact x_retRI X R hf dX12_factOf_44
    · replace hf := (if_neg s2).symm.trans hf
      by_cases s4 : p0 = (2 : Int32)
      · replace hf := (if_pos s4).symm.trans hf
        refine x_tswI X (off := 44) 45 dX12_factOf_1 s4 (by decide) (by decide) (by decide) (by decide) ?_
        refine x_aload_n X dX12_factOf_45 0 rfl rfl ?_
        refine x_getsj X (i := 52) 3 fl_X12_26_13 (sdM_52 hω) (ks_52 _) rfl (j := 55) rfl dX12_factOf_46 ?_
        refine x_iload_n X dX12_factOf_49 2 rfl rfl ?_
        obtain ⟨z5, hf⟩ := chk_some hf
        refine x_iald X (i := 55) (n := 5) (sdM_55 hω) (ks_55 _) z5 dX12_factOf_50 ?_
        exact x_retRI X R hf dX12_factOf_51
      · replace hf := (if_neg s4).symm.trans hf
        by_cases s6 : p0 = (3 : Int32)
        · replace hf := (if_pos s6).symm.trans hf
          refine x_tswI X (off := 51) 52 dX12_factOf_1 s6 (by decide) (by decide) (by decide) (by decide) ?_
          refine x_aload_n X dX12_factOf_52 0 rfl rfl ?_
          refine x_iload_n X dX12_factOf_53 3 rfl rfl ?_
          obtain ⟨r7, g8, hf⟩ := bnr_some hf
          refine c_X12_267 X hω g8 (hR := ⟨Nat.le_of_ble_eq_true rfl, Nat.le_of_ble_eq_true rfl⟩) ⟨Nat.zero_le _, Nat.zero_le _⟩ (Nat.le_of_ble_eq_true rfl) dX12_factOf_54 ?_
          exact x_retRI X R hf dX12_factOf_57
        · replace hf := (if_neg s6).symm.trans hf
          by_cases s9 : p0 = (4 : Int32)
          · replace hf := (if_pos s9).symm.trans hf
            refine x_tswI X (off := 57) 58 dX12_factOf_1 s9 (by decide) (by decide) (by decide) (by decide) ?_
            refine x_aload_n X dX12_factOf_58 0 rfl rfl ?_
            refine x_getsj X (i := 52) 4 fl_X12_29_13 (sdM_52 hω) (ks_52 _) rfl (j := 56) rfl dX12_factOf_59 ?_
            refine x_iload_n X dX12_factOf_62 2 rfl rfl ?_
            obtain ⟨z10, hf⟩ := chk_some hf
            refine x_iald X (i := 56) (n := 5) (sdM_56 hω) (ks_56 _) z10 dX12_factOf_63 ?_
            refine x_bipush X (v := 10) dX12_factOf_64 (by decide) ?_
            obtain ⟨z11, hf⟩ := nz_some hf
            refine x_irem X dX12_factOf_66 z11 ?_
            exact x_retRI X R hf dX12_factOf_67
          · replace hf := (if_neg s9).symm.trans hf
            refine x_tswO X 68 dX12_factOf_1 (by have := lv_neT s1 (a := 0) (by decide); have := lv_neT s2 (a := 1) (by decide); have := lv_neT s4 (a := 2) (by decide); have := lv_neT s6 (a := 3) (by decide); have := lv_neT s9 (a := 4) (by decide); omega) (by decide) ?_
            refine x_aload_n X dX12_factOf_68 0 rfl rfl ?_
            refine x_geti X (i := 52) fl_X12_16_13 (sdM_52 hω) (ks_52 _) rfl dX12_factOf_69 ?_
            refine x_bipush X (v := 24) dX12_factOf_72 (by decide) ?_
            obtain ⟨z12, hf⟩ := nz_some hf
            refine x_irem X dX12_factOf_74 z12 ?_
            exact x_retRI X R hf dX12_factOf_75
theorem mt_X12_factOf : MT yX12_factOf cX12_factOf 4 (some .int) "SignalBlindModel" 3 := ⟨(mT_6 114 rfl rfl), (mTp (q := (yX12_factOf, 61)) (by decide +kernel) rfl), (mT_1 10 rfl rfl), (mT_6 115 rfl rfl), by decide⟩
theorem c_X12_270 {ω : XO} {rm : Room} {nL : Nat} {κ : XK} {cc : ByteArray} (X : XC ω rm nL κ cc "SignalBlindModel") (hω : ω.2.2.2.1 = 0) {L : List Nat} {q : Nat → Nat} {h : hp} {cells slots pc : Nat} {lv : List (Nat × Value)} {rest : List Value} {p0 : Int32} {p1 : Int32} {p2 : Int32} {r : Int32} (hf : f_X12_factOf h p0 p1 p2 = some r) (hR : rm_X12_factOf.frames + 1 ≤ rm.frames ∧ 8 + (4 + 11) + rm_X12_factOf.locals ≤ rm.locals) (hcs : cells ≤ rm.cells ∧ slots ≤ rm.slots) (hroom : (rest.map fun v => v.category).sum ≤ 8) (hd : decode cc pc = .ok (.invokevirtual 270, 3)) (kk : XG ω rm nL κ L q h cells slots (pc + 3) lv (.int r :: rest)) : XG ω rm nL κ L q h cells slots pc lv (.int p2 :: .int p1 :: .int p0 :: .ref (q 52) :: rest) := x_callV X [.int p0, .int p1, .int p2] rest (k_X12_factOf hω hf) mt_X12_factOf (mT_6 112 rfl rfl) hR ⟨rfl, rfl⟩ hcs (sdM_52 hω) (ks_52 _) (by decide) rfl rfl hroom hd kk

abbrev rm_X12_holds : Room := { frames := 3, cells := 0, slots := 0, locals := 68 }
def f_X12_holds_247 (k11 : hp → Int32 → Int32 → Int32 → Int32 → Int32 → Option (hp × Int32)) (h : hp) (a24 : Int32) (a25 : Int32) (a26 : Int32) (a27 : Int32) (a28 : Int32) : Option (hp × Int32) := (nm (a28 + (1 : Int32)) fun v29 =>
 (k11 h a24 a25 a26 a27 v29))
def f_X12_holds_63 (k11 : hp → Int32 → Int32 → Int32 → Int32 → Int32 → Option (hp × Int32)) (h : hp) (a15 : Int32) (a16 : Int32) (a17 : Int32) (a18 : Int32) (a19 : Int32) (a20 : Int32) (a21 : Int32) : Option (hp × Int32) := (chk a21 100
 (nm (tI h 67 (a21).toNatClampNeg (vp_nar .boolean a20)) fun h23 =>
 (f_X12_holds_247 k11 h23 a15 a16 a17 a18 a19)))
def f_X12_holds_147 (k11 : hp → Int32 → Int32 → Int32 → Int32 → Int32 → Option (hp × Int32)) (h : hp) (a41 : Int32) (a42 : Int32) (a43 : Int32) (a44 : Int32) (a45 : Int32) (a46 : Int32) (a47 : Int32) : Option (hp × Int32) := (chk a47 100
 (nm (tI h 67 (a47).toNatClampNeg (vp_nar .boolean a46)) fun h49 =>
 (f_X12_holds_247 k11 h49 a41 a42 a43 a44 a45)))
def f_X12_holds_116 (k11 : hp → Int32 → Int32 → Int32 → Int32 → Int32 → Option (hp × Int32)) (h : hp) (a35 : Int32) (a36 : Int32) (a37 : Int32) (a38 : Int32) (a39 : Int32) (a40 : Int32) : Option (hp × Int32) := (f_X12_holds_147 k11 h a35 a36 a37 a38 a39 (0 : Int32) a40)
def f_X12_holds_142 (k11 : hp → Int32 → Int32 → Int32 → Int32 → Int32 → Option (hp × Int32)) (h : hp) (a56 : Int32) (a57 : Int32) (a58 : Int32) (a59 : Int32) (a60 : Int32) (a61 : Int32) : Option (hp × Int32) := (f_X12_holds_147 k11 h a56 a57 a58 a59 a60 (1 : Int32) a61)
def f_X12_holds_243 (k11 : hp → Int32 → Int32 → Int32 → Int32 → Int32 → Option (hp × Int32)) (h : hp) (a71 : Int32) (a72 : Int32) (a73 : Int32) (a74 : Int32) (a75 : Int32) (a76 : Int32) (a77 : Int32) : Option (hp × Int32) := (chk a77 100
 (nm (tI h 67 (a77).toNatClampNeg (vp_nar .boolean a76)) fun h79 =>
 (nm (a74 + (1 : Int32)) fun v80 =>
 (f_X12_holds_247 k11 h79 a71 a72 a73 v80 a75))))
def f_X12_holds_11 : Nat → hp → Int32 → Int32 → Int32 → Int32 → Int32 → Option (hp × Int32)
  | 0, _, _, _, _, _, _ => none
  | n + 1, h, a3, a4, a5, a6, a7 => (chk a3 60
 (if a7 < (aI h 63 (a3).toNatClampNeg) then
 (chk a7 600
 (nm (aI h 64 (a7).toNatClampNeg) fun v11 =>
 (if v11 = (-33 : Int32) then
 (chk (a6 - (1 : Int32)) 100
 (if (aI h 67 ((a6 - (1 : Int32))).toNatClampNeg) = 0 then
 (f_X12_holds_63 (f_X12_holds_11 n) h a3 a4 a5 a6 a7 (1 : Int32) (a6 - (1 : Int32)))
 else
 (f_X12_holds_63 (f_X12_holds_11 n) h a3 a4 a5 a6 a7 (0 : Int32) (a6 - (1 : Int32)))))
 else
 (if v11 < 0 then
 (nm (a6 + (-1 : Int32)) fun v31 =>
 (if v11 = (-38 : Int32) then
 (chk (v31 - (1 : Int32)) 100
 (if (aI h 67 ((v31 - (1 : Int32))).toNatClampNeg) = 0 then
 (f_X12_holds_116 (f_X12_holds_11 n) h a3 a4 a5 v31 a7 (v31 - (1 : Int32)))
 else
 (chk v31 100
 (if (aI h 67 (v31).toNatClampNeg) = 0 then
 (f_X12_holds_116 (f_X12_holds_11 n) h a3 a4 a5 v31 a7 (v31 - (1 : Int32)))
 else
 (f_X12_holds_147 (f_X12_holds_11 n) h a3 a4 a5 v31 a7 (1 : Int32) (v31 - (1 : Int32)))))))
 else
 (chk (v31 - (1 : Int32)) 100
 (if (aI h 67 ((v31 - (1 : Int32))).toNatClampNeg) = 0 then
 (chk v31 100
 (if (aI h 67 (v31).toNatClampNeg) = 0 then
 (f_X12_holds_147 (f_X12_holds_11 n) h a3 a4 a5 v31 a7 (0 : Int32) (v31 - (1 : Int32)))
 else
 (f_X12_holds_142 (f_X12_holds_11 n) h a3 a4 a5 v31 a7 (v31 - (1 : Int32)))))
 else
 (f_X12_holds_142 (f_X12_holds_11 n) h a3 a4 a5 v31 a7 (v31 - (1 : Int32)))))))
 else
 (nz (1000 : Int32)
 (bnr (f_X12_factOf h (v11 / (1000 : Int32)) a4 a5) fun r63 =>
 (nz (100 : Int32)
 (nz (10 : Int32)
 (nm ((v11 / (100 : Int32)) - (v11 / (100 : Int32)) / (10 : Int32) * (10 : Int32)) fun v67 =>
 (if v67 = 0 then
 (nz (100 : Int32)
 (if r63 < (v11 - v11 / (100 : Int32) * (100 : Int32)) then
 (f_X12_holds_243 (f_X12_holds_11 n) h a3 a4 a5 a6 a7 (1 : Int32) a6)
 else
 (f_X12_holds_243 (f_X12_holds_11 n) h a3 a4 a5 a6 a7 (0 : Int32) a6)))
 else
 (if v67 = (1 : Int32) then
 (nz (100 : Int32)
 (if r63 = (v11 - v11 / (100 : Int32) * (100 : Int32)) then
 (f_X12_holds_243 (f_X12_holds_11 n) h a3 a4 a5 a6 a7 (1 : Int32) a6)
 else
 (f_X12_holds_243 (f_X12_holds_11 n) h a3 a4 a5 a6 a7 (0 : Int32) a6)))
 else
 (nz (100 : Int32)
 (if (v11 - v11 / (100 : Int32) * (100 : Int32)) < r63 then
 (f_X12_holds_243 (f_X12_holds_11 n) h a3 a4 a5 a6 a7 (1 : Int32) a6)
 else
 (f_X12_holds_243 (f_X12_holds_11 n) h a3 a4 a5 a6 a7 (0 : Int32) a6))))))))))))))
 else
 (chk (0 : Int32) 100
 (ckZ (aI h 67 ((0 : Int32)).toNatClampNeg)
 (some (h, (aI h 67 ((0 : Int32)).toNatClampNeg)))))))
def f_X12_holds (h : hp) (p0 : Int32) (p1 : Int32) (p2 : Int32) : Option (hp × Int32) := (chk p0 60
 (nm (aI h 62 (p0).toNatClampNeg) fun v2 =>
 (f_X12_holds_11 2000 h p0 p1 p2 (0 : Int32) v2)))
set_option maxRecDepth 100000 in
set_option maxHeartbeats 4000000 in
theorem k_X12_holds_247 {ω : XO} (hω : ω.2.2.2.1 = 0) {κ : XK} (X : XC ω rm_X12_holds 9 κ cX12_holds "SignalBlindModel") {L : List Nat} {q : Nat → Nat} {h' : hp} {r : Int32} (R : XRet ω rm_X12_holds κ (some .boolean) L q h' (some (.int r))) (k11 : hp → Int32 → Int32 → Int32 → Int32 → Int32 → Option (hp × Int32)) (hk11 : ∀ (h : hp) (a3 : Int32) (a4 : Int32) (a5 : Int32) (a6 : Int32) (a7 : Int32), k11 h a3 a4 a5 a6 a7 = some (h', r) → XG ω rm_X12_holds 9 κ L q h 0 0 11 [(0, .ref (q 52)), (1, .int a3), (2, .int a4), (3, .int a5), (4, .int a6), (5, .int a7)] []) : ∀ (h : hp) (a24 : Int32) (a25 : Int32) (a26 : Int32) (a27 : Int32) (a28 : Int32), f_X12_holds_247 k11 h a24 a25 a26 a27 a28 = some (h', r) → XG ω rm_X12_holds 9 κ L q h 0 0 247 [(0, .ref (q 52)), (1, .int a24), (2, .int a25), (3, .int a26), (4, .int a27), (5, .int a28)] [] := by
  intro h a24 a25 a26 a27 a28 hf
  unfold f_X12_holds_247 at hf
  obtain ⟨v29, ev29, hf⟩ := nm_some hf
  refine x_iincN X (v := 1) ev29 [(5, .int v29), (0, .ref (q 52)), (1, .int a24), (2, .int a25), (3, .int a26), (4, .int a27)] dX12_holds_247 5 rfl (by decide) (Nat.le_of_ble_eq_true rfl) rfl ?_
  refine x_goto X 11 dX12_holds_250 (by decide) ?_
  refine x_lv [1, 2, 3, 4, 5, 0] rfl ?_
  exact hk11 h _ _ _ _ _ hf
set_option maxRecDepth 100000 in
set_option maxHeartbeats 4000000 in
theorem k_X12_holds_63 {ω : XO} (hω : ω.2.2.2.1 = 0) {κ : XK} (X : XC ω rm_X12_holds 9 κ cX12_holds "SignalBlindModel") {L : List Nat} {q : Nat → Nat} {h' : hp} {r : Int32} (R : XRet ω rm_X12_holds κ (some .boolean) L q h' (some (.int r))) (k11 : hp → Int32 → Int32 → Int32 → Int32 → Int32 → Option (hp × Int32)) (hk11 : ∀ (h : hp) (a3 : Int32) (a4 : Int32) (a5 : Int32) (a6 : Int32) (a7 : Int32), k11 h a3 a4 a5 a6 a7 = some (h', r) → XG ω rm_X12_holds 9 κ L q h 0 0 11 [(0, .ref (q 52)), (1, .int a3), (2, .int a4), (3, .int a5), (4, .int a6), (5, .int a7)] []) : ∀ (h : hp) (a15 : Int32) (a16 : Int32) (a17 : Int32) (a18 : Int32) (a19 : Int32) (a20 : Int32) (a21 : Int32), f_X12_holds_63 k11 h a15 a16 a17 a18 a19 a20 a21 = some (h', r) → XG ω rm_X12_holds 9 κ L q h 0 0 63 [(0, .ref (q 52)), (1, .int a15), (2, .int a16), (3, .int a17), (4, .int a18), (5, .int a19)] [.int a20, .int a21, .ref (q 67)] := by
  intro h a15 a16 a17 a18 a19 a20 a21 hf
  unfold f_X12_holds_63 at hf
  obtain ⟨z22, hf⟩ := chk_some hf
  refine x_zast X (i := 67) (n := 100) (sdM_67 hω) (ks_67 _) z22 dX12_holds_63 ?_
  obtain ⟨h23, eh23, hf⟩ := nm_some hf
  refine x_nmh eh23 ?_
  refine x_goto X 247 dX12_holds_64 (by decide) ?_
  refine x_lv [0, 1, 2, 3, 4, 5] rfl ?_
  exact k_X12_holds_247 hω X R _ hk11 h23 _ _ _ _ _ hf
set_option maxRecDepth 100000 in
set_option maxHeartbeats 4000000 in
theorem k_X12_holds_147 {ω : XO} (hω : ω.2.2.2.1 = 0) {κ : XK} (X : XC ω rm_X12_holds 9 κ cX12_holds "SignalBlindModel") {L : List Nat} {q : Nat → Nat} {h' : hp} {r : Int32} (R : XRet ω rm_X12_holds κ (some .boolean) L q h' (some (.int r))) (k11 : hp → Int32 → Int32 → Int32 → Int32 → Int32 → Option (hp × Int32)) (hk11 : ∀ (h : hp) (a3 : Int32) (a4 : Int32) (a5 : Int32) (a6 : Int32) (a7 : Int32), k11 h a3 a4 a5 a6 a7 = some (h', r) → XG ω rm_X12_holds 9 κ L q h 0 0 11 [(0, .ref (q 52)), (1, .int a3), (2, .int a4), (3, .int a5), (4, .int a6), (5, .int a7)] []) : ∀ (h : hp) (a41 : Int32) (a42 : Int32) (a43 : Int32) (a44 : Int32) (a45 : Int32) (a46 : Int32) (a47 : Int32), f_X12_holds_147 k11 h a41 a42 a43 a44 a45 a46 a47 = some (h', r) → XG ω rm_X12_holds 9 κ L q h 0 0 147 [(0, .ref (q 52)), (1, .int a41), (2, .int a42), (3, .int a43), (4, .int a44), (5, .int a45)] [.int a46, .int a47, .ref (q 67)] := by
  intro h a41 a42 a43 a44 a45 a46 a47 hf
  unfold f_X12_holds_147 at hf
  obtain ⟨z48, hf⟩ := chk_some hf
  refine x_zast X (i := 67) (n := 100) (sdM_67 hω) (ks_67 _) z48 dX12_holds_147 ?_
  obtain ⟨h49, eh49, hf⟩ := nm_some hf
  refine x_nmh eh49 ?_
  refine x_goto X 247 dX12_holds_148 (by decide) ?_
  refine x_lv [0, 1, 2, 3, 4, 5] rfl ?_
  exact k_X12_holds_247 hω X R _ hk11 h49 _ _ _ _ _ hf
set_option maxRecDepth 100000 in
set_option maxHeartbeats 4000000 in
theorem k_X12_holds_116 {ω : XO} (hω : ω.2.2.2.1 = 0) {κ : XK} (X : XC ω rm_X12_holds 9 κ cX12_holds "SignalBlindModel") {L : List Nat} {q : Nat → Nat} {h' : hp} {r : Int32} (R : XRet ω rm_X12_holds κ (some .boolean) L q h' (some (.int r))) (k11 : hp → Int32 → Int32 → Int32 → Int32 → Int32 → Option (hp × Int32)) (hk11 : ∀ (h : hp) (a3 : Int32) (a4 : Int32) (a5 : Int32) (a6 : Int32) (a7 : Int32), k11 h a3 a4 a5 a6 a7 = some (h', r) → XG ω rm_X12_holds 9 κ L q h 0 0 11 [(0, .ref (q 52)), (1, .int a3), (2, .int a4), (3, .int a5), (4, .int a6), (5, .int a7)] []) : ∀ (h : hp) (a35 : Int32) (a36 : Int32) (a37 : Int32) (a38 : Int32) (a39 : Int32) (a40 : Int32), f_X12_holds_116 k11 h a35 a36 a37 a38 a39 a40 = some (h', r) → XG ω rm_X12_holds 9 κ L q h 0 0 116 [(0, .ref (q 52)), (1, .int a35), (2, .int a36), (3, .int a37), (4, .int a38), (5, .int a39)] [.int a40, .ref (q 67)] := by
  intro h a35 a36 a37 a38 a39 a40 hf
  unfold f_X12_holds_116 at hf
  refine x_iconst X (v := 0) dX12_holds_116 (by decide) ?_
  refine x_goto X 147 dX12_holds_117 (by decide) ?_
  refine x_lv [0, 1, 2, 3, 4, 5] rfl ?_
  exact k_X12_holds_147 hω X R _ hk11 h _ _ _ _ _ _ _ hf
set_option maxRecDepth 100000 in
set_option maxHeartbeats 4000000 in
theorem k_X12_holds_142 {ω : XO} (hω : ω.2.2.2.1 = 0) {κ : XK} (X : XC ω rm_X12_holds 9 κ cX12_holds "SignalBlindModel") {L : List Nat} {q : Nat → Nat} {h' : hp} {r : Int32} (R : XRet ω rm_X12_holds κ (some .boolean) L q h' (some (.int r))) (k11 : hp → Int32 → Int32 → Int32 → Int32 → Int32 → Option (hp × Int32)) (hk11 : ∀ (h : hp) (a3 : Int32) (a4 : Int32) (a5 : Int32) (a6 : Int32) (a7 : Int32), k11 h a3 a4 a5 a6 a7 = some (h', r) → XG ω rm_X12_holds 9 κ L q h 0 0 11 [(0, .ref (q 52)), (1, .int a3), (2, .int a4), (3, .int a5), (4, .int a6), (5, .int a7)] []) : ∀ (h : hp) (a56 : Int32) (a57 : Int32) (a58 : Int32) (a59 : Int32) (a60 : Int32) (a61 : Int32), f_X12_holds_142 k11 h a56 a57 a58 a59 a60 a61 = some (h', r) → XG ω rm_X12_holds 9 κ L q h 0 0 142 [(0, .ref (q 52)), (1, .int a56), (2, .int a57), (3, .int a58), (4, .int a59), (5, .int a60)] [.int a61, .ref (q 67)] := by
  intro h a56 a57 a58 a59 a60 a61 hf
  unfold f_X12_holds_142 at hf
  refine x_iconst X (v := 1) dX12_holds_142 (by decide) ?_
  refine x_goto X 147 dX12_holds_143 (by decide) ?_
  refine x_lv [0, 1, 2, 3, 4, 5] rfl ?_
  exact k_X12_holds_147 hω X R _ hk11 h _ _ _ _ _ _ _ hf
set_option maxRecDepth 100000 in
set_option maxHeartbeats 4000000 in
theorem k_X12_holds_243 {ω : XO} (hω : ω.2.2.2.1 = 0) {κ : XK} (X : XC ω rm_X12_holds 9 κ cX12_holds "SignalBlindModel") {L : List Nat} {q : Nat → Nat} {h' : hp} {r : Int32} (R : XRet ω rm_X12_holds κ (some .boolean) L q h' (some (.int r))) (k11 : hp → Int32 → Int32 → Int32 → Int32 → Int32 → Option (hp × Int32)) (hk11 : ∀ (h : hp) (a3 : Int32) (a4 : Int32) (a5 : Int32) (a6 : Int32) (a7 : Int32), k11 h a3 a4 a5 a6 a7 = some (h', r) → XG ω rm_X12_holds 9 κ L q h 0 0 11 [(0, .ref (q 52)), (1, .int a3), (2, .int a4), (3, .int a5), (4, .int a6), (5, .int a7)] []) : ∀ (h : hp) (a71 : Int32) (a72 : Int32) (a73 : Int32) (a74 : Int32) (a75 : Int32) (a76 : Int32) (a77 : Int32), f_X12_holds_243 k11 h a71 a72 a73 a74 a75 a76 a77 = some (h', r) → XG ω rm_X12_holds 9 κ L q h 0 0 243 [(0, .ref (q 52)), (1, .int a71), (2, .int a72), (3, .int a73), (4, .int a74), (5, .int a75)] [.int a76, .int a77, .ref (q 67)] := by
  intro h a71 a72 a73 a74 a75 a76 a77 hf
  unfold f_X12_holds_243 at hf
  obtain ⟨z78, hf⟩ := chk_some hf
  refine x_zast X (i := 67) (n := 100) (sdM_67 hω) (ks_67 _) z78 dX12_holds_243 ?_
  obtain ⟨h79, eh79, hf⟩ := nm_some hf
  refine x_nmh eh79 ?_
  obtain ⟨v80, ev80, hf⟩ := nm_some hf
  refine x_iincN X (v := 1) ev80 [(4, .int v80), (0, .ref (q 52)), (1, .int a71), (2, .int a72), (3, .int a73), (5, .int a75)] dX12_holds_244 4 rfl (by decide) (Nat.le_of_ble_eq_true rfl) rfl ?_
  refine x_lv [1, 2, 3, 4, 0, 5] rfl ?_
  exact k_X12_holds_247 hω X R _ hk11 h79 _ _ _ _ _ hf
set_option maxRecDepth 100000 in
set_option maxHeartbeats 4000000 in
theorem k_X12_holds_11 {ω : XO} (hω : ω.2.2.2.1 = 0) {κ : XK} (X : XC ω rm_X12_holds 9 κ cX12_holds "SignalBlindModel") {L : List Nat} {q : Nat → Nat} {h' : hp} {r : Int32} (R : XRet ω rm_X12_holds κ (some .boolean) L q h' (some (.int r))) : ∀ (n : Nat) (h : hp) (a3 : Int32) (a4 : Int32) (a5 : Int32) (a6 : Int32) (a7 : Int32), f_X12_holds_11 n h a3 a4 a5 a6 a7 = some (h', r) → XG ω rm_X12_holds 9 κ L q h 0 0 11 [(0, .ref (q 52)), (1, .int a3), (2, .int a4), (3, .int a5), (4, .int a6), (5, .int a7)] [] := by
  intro n
  induction n with
  | zero =>
    intro h a3 a4 a5 a6 a7 hf
    have hf : (none : Option (hp × Int32)) = some (h', r) := hf
    cases hf
  | succ n ih =>
    intro h a3 a4 a5 a6 a7 hf
    rw [f_X12_holds_11] at hf
    refine x_iload X dX12_holds_11 5 rfl ?_
    refine x_aload_n X dX12_holds_13 0 rfl rfl ?_
    refine x_getsj X (i := 52) 11 fl_X12_65_13 (sdM_52 hω) (ks_52 _) rfl (j := 63) rfl dX12_holds_14 ?_
    refine x_iload_n X dX12_holds_17 1 rfl rfl ?_
    obtain ⟨z8, hf⟩ := chk_some hf
    refine x_iald X (i := 63) (n := 60) (sdM_63 hω) (ks_63 _) z8 dX12_holds_18 ?_
    refine x_icmp_ge X 253 dX12_holds_19 (by decide) (fun c9 => ?_) (fun c9 => ?_)
    · replace hf := (if_pos c9).symm.trans hf
      refine x_aload_n X dX12_holds_22 0 rfl rfl ?_
      refine x_getsj X (i := 52) 12 fl_X12_68_13 (sdM_52 hω) (ks_52 _) rfl (j := 64) rfl dX12_holds_23 ?_
      refine x_iload X dX12_holds_26 5 rfl ?_
      obtain ⟨z10, hf⟩ := chk_some hf
      refine x_iald X (i := 64) (n := 600) (sdM_64 hω) (ks_64 _) z10 dX12_holds_28 ?_
      obtain ⟨v11, ev11, hf⟩ := nm_some hf
      refine x_nmI ev11 ?_
      refine x_istore X [(6, .int v11), (0, .ref (q 52)), (1, .int a3), (2, .int a4), (3, .int a5), (4, .int a6), (5, .int a7)] dX12_holds_29 (Nat.le_of_ble_eq_true rfl) rfl ?_
      refine x_iload X dX12_holds_31 0 rfl ?_
      refine x_bipush X (v := -33) dX12_holds_33 (by decide) ?_
      refine x_icmp_ne X 67 dX12_holds_35 (by decide) (fun c12 => ?_) (fun c12 => ?_)
      · replace hf := (if_pos c12).symm.trans hf
        refine x_aload_n X dX12_holds_38 1 rfl rfl ?_
        refine x_getsj X (i := 52) 15 fl_X12_86_13 (sdM_52 hω) (ks_52 _) rfl (j := 67) rfl dX12_holds_39 ?_
        refine x_iload X dX12_holds_42 5 rfl ?_
        refine x_iconst X (v := 1) dX12_holds_44 (by decide) ?_
        refine x_isub X dX12_holds_45 ?_
        refine x_aload_n X dX12_holds_46 1 rfl rfl ?_
        refine x_getsj X (i := 52) 15 fl_X12_86_13 (sdM_52 hω) (ks_52 _) rfl (j := 67) rfl dX12_holds_47 ?_
        refine x_iload X dX12_holds_50 5 rfl ?_
        refine x_iconst X (v := 1) dX12_holds_52 (by decide) ?_
        refine x_isub X dX12_holds_53 ?_
        obtain ⟨z13, hf⟩ := chk_some hf
        refine x_zald X (i := 67) (n := 100) (sdM_67 hω) (ks_67 _) z13 dX12_holds_54 ?_
        refine x_if_ne X 62 dX12_holds_55 (by decide) (fun c14 => ?_) (fun c14 => ?_)
        · replace hf := (if_pos c14).symm.trans hf
          refine x_iconst X (v := 1) dX12_holds_58 (by decide) ?_
          refine x_goto X 63 dX12_holds_59 (by decide) ?_
          refine x_lv [1, 2, 3, 4, 5, 6] rfl ?_
          exact k_X12_holds_63 hω X R _ ih h _ _ _ _ _ _ _ hf
        · replace hf := (if_neg c14).symm.trans hf
          refine x_iconst X (v := 0) dX12_holds_62 (by decide) ?_
          refine x_lv [1, 2, 3, 4, 5, 6] rfl ?_
          exact k_X12_holds_63 hω X R _ ih h _ _ _ _ _ _ _ hf
      · replace hf := (if_neg c12).symm.trans hf
        refine x_iload X dX12_holds_67 0 rfl ?_
        refine x_if_ge X 151 dX12_holds_69 (by decide) (fun c30 => ?_) (fun c30 => ?_)
        · replace hf := (if_pos c30).symm.trans hf
          obtain ⟨v31, ev31, hf⟩ := nm_some hf
          refine x_iincN X (v := -1) ev31 [(4, .int v31), (6, .int v11), (0, .ref (q 52)), (1, .int a3), (2, .int a4), (3, .int a5), (5, .int a7)] dX12_holds_72 5 rfl (by decide) (Nat.le_of_ble_eq_true rfl) rfl ?_
          refine x_aload_n X dX12_holds_75 2 rfl rfl ?_
          refine x_getsj X (i := 52) 15 fl_X12_86_13 (sdM_52 hω) (ks_52 _) rfl (j := 67) rfl dX12_holds_76 ?_
          refine x_iload X dX12_holds_79 0 rfl ?_
          refine x_iconst X (v := 1) dX12_holds_81 (by decide) ?_
          refine x_isub X dX12_holds_82 ?_
          refine x_iload X dX12_holds_83 1 rfl ?_
          refine x_bipush X (v := -38) dX12_holds_85 (by decide) ?_
          refine x_icmp_ne X 120 dX12_holds_87 (by decide) (fun c32 => ?_) (fun c32 => ?_)
          · replace hf := (if_pos c32).symm.trans hf
            refine x_aload_n X dX12_holds_90 2 rfl rfl ?_
            refine x_getsj X (i := 52) 15 fl_X12_86_13 (sdM_52 hω) (ks_52 _) rfl (j := 67) rfl dX12_holds_91 ?_
            refine x_iload X dX12_holds_94 0 rfl ?_
            refine x_iconst X (v := 1) dX12_holds_96 (by decide) ?_
            refine x_isub X dX12_holds_97 ?_
            obtain ⟨z33, hf⟩ := chk_some hf
            refine x_zald X (i := 67) (n := 100) (sdM_67 hω) (ks_67 _) z33 dX12_holds_98 ?_
            refine x_if_eq X 116 dX12_holds_99 (by decide) (fun c34 => ?_) (fun c34 => ?_)
            · replace hf := (if_pos c34).symm.trans hf
              refine x_lv [2, 3, 4, 5, 0, 6] rfl ?_
              exact k_X12_holds_116 hω X R _ ih h _ _ _ _ _ _ hf
            · replace hf := (if_neg c34).symm.trans hf
              refine x_aload_n X dX12_holds_102 2 rfl rfl ?_
              refine x_getsj X (i := 52) 15 fl_X12_86_13 (sdM_52 hω) (ks_52 _) rfl (j := 67) rfl dX12_holds_103 ?_
              refine x_iload X dX12_holds_106 0 rfl ?_
              obtain ⟨z50, hf⟩ := chk_some hf
              refine x_zald X (i := 67) (n := 100) (sdM_67 hω) (ks_67 _) z50 dX12_holds_108 ?_
              refine x_if_eq X 116 dX12_holds_109 (by decide) (fun c51 => ?_) (fun c51 => ?_)
              · replace hf := (if_pos c51).symm.trans hf
                refine x_lv [2, 3, 4, 5, 0, 6] rfl ?_
                exact k_X12_holds_116 hω X R _ ih h _ _ _ _ _ _ hf
              · replace hf := (if_neg c51).symm.trans hf
                refine x_iconst X (v := 1) dX12_holds_112 (by decide) ?_
                refine x_goto X 147 dX12_holds_113 (by decide) ?_
                refine x_lv [2, 3, 4, 5, 0, 6] rfl ?_
                exact k_X12_holds_147 hω X R _ ih h _ _ _ _ _ _ _ hf
          · replace hf := (if_neg c32).symm.trans hf
            refine x_aload_n X dX12_holds_120 2 rfl rfl ?_
            refine x_getsj X (i := 52) 15 fl_X12_86_13 (sdM_52 hω) (ks_52 _) rfl (j := 67) rfl dX12_holds_121 ?_
            refine x_iload X dX12_holds_124 0 rfl ?_
            refine x_iconst X (v := 1) dX12_holds_126 (by decide) ?_
            refine x_isub X dX12_holds_127 ?_
            obtain ⟨z52, hf⟩ := chk_some hf
            refine x_zald X (i := 67) (n := 100) (sdM_67 hω) (ks_67 _) z52 dX12_holds_128 ?_
            refine x_if_ne X 142 dX12_holds_129 (by decide) (fun c53 => ?_) (fun c53 => ?_)
            · replace hf := (if_pos c53).symm.trans hf
              refine x_aload_n X dX12_holds_132 2 rfl rfl ?_
              refine x_getsj X (i := 52) 15 fl_X12_86_13 (sdM_52 hω) (ks_52 _) rfl (j := 67) rfl dX12_holds_133 ?_
              refine x_iload X dX12_holds_136 0 rfl ?_
              obtain ⟨z54, hf⟩ := chk_some hf
              refine x_zald X (i := 67) (n := 100) (sdM_67 hω) (ks_67 _) z54 dX12_holds_138 ?_
              refine x_if_eq X 146 dX12_holds_139 (by decide) (fun c55 => ?_) (fun c55 => ?_)
              · replace hf := (if_pos c55).symm.trans hf
                refine x_iconst X (v := 0) dX12_holds_146 (by decide) ?_
                refine x_lv [2, 3, 4, 5, 0, 6] rfl ?_
                exact k_X12_holds_147 hω X R _ ih h _ _ _ _ _ _ _ hf
              · replace hf := (if_neg c55).symm.trans hf
                refine x_lv [2, 3, 4, 5, 0, 6] rfl ?_
                exact k_X12_holds_142 hω X R _ ih h _ _ _ _ _ _ hf
            · replace hf := (if_neg c53).symm.trans hf
              refine x_lv [2, 3, 4, 5, 0, 6] rfl ?_
              exact k_X12_holds_142 hω X R _ ih h _ _ _ _ _ _ hf
        · replace hf := (if_neg c30).symm.trans hf
          refine x_aload_n X dX12_holds_151 1 rfl rfl ?_
          refine x_iload X dX12_holds_152 0 rfl ?_
          refine x_sipush X (v := 1000) dX12_holds_154 (by decide) ?_
          obtain ⟨z62, hf⟩ := nz_some hf
          refine x_idiv X dX12_holds_157 z62 ?_
          refine x_iload_n X dX12_holds_158 3 rfl rfl ?_
          refine x_iload_n X dX12_holds_159 4 rfl rfl ?_
          obtain ⟨r63, g64, hf⟩ := bnr_some hf
          refine c_X12_270 X hω g64 (hR := ⟨Nat.le_of_ble_eq_true rfl, Nat.le_of_ble_eq_true rfl⟩) ⟨Nat.zero_le _, Nat.zero_le _⟩ (Nat.le_of_ble_eq_true rfl) dX12_holds_160 ?_
          refine x_istore X [(7, .int r63), (6, .int v11), (0, .ref (q 52)), (1, .int a3), (2, .int a4), (3, .int a5), (4, .int a6), (5, .int a7)] dX12_holds_163 (Nat.le_of_ble_eq_true rfl) rfl ?_
          refine x_iload X dX12_holds_165 1 rfl ?_
          refine x_bipush X (v := 100) dX12_holds_167 (by decide) ?_
          obtain ⟨z65, hf⟩ := nz_some hf
          refine x_idiv X dX12_holds_169 z65 ?_
          refine x_bipush X (v := 10) dX12_holds_170 (by decide) ?_
          obtain ⟨z66, hf⟩ := nz_some hf
          refine x_irem X dX12_holds_172 z66 ?_
          obtain ⟨v67, ev67, hf⟩ := nm_some hf
          refine x_nmI ev67 ?_
          refine x_istore X [(8, .int v67), (7, .int r63), (6, .int v11), (0, .ref (q 52)), (1, .int a3), (2, .int a4), (3, .int a5), (4, .int a6), (5, .int a7)] dX12_holds_173 (Nat.le_of_ble_eq_true rfl) rfl ?_
          refine x_aload_n X dX12_holds_175 3 rfl rfl ?_
          refine x_getsj X (i := 52) 15 fl_X12_86_13 (sdM_52 hω) (ks_52 _) rfl (j := 67) rfl dX12_holds_176 ?_
          refine x_iload X dX12_holds_179 7 rfl ?_
          refine x_iload X dX12_holds_181 0 rfl ?_
          refine x_if_ne X 204 dX12_holds_183 (by decide) (fun c68 => ?_) (fun c68 => ?_)
          · replace hf := (if_pos c68).symm.trans hf
            refine x_iload X dX12_holds_186 1 rfl ?_
            refine x_iload X dX12_holds_188 2 rfl ?_
            refine x_bipush X (v := 100) dX12_holds_190 (by decide) ?_
            obtain ⟨z69, hf⟩ := nz_some hf
            refine x_irem X dX12_holds_192 z69 ?_
            refine x_icmp_ge X 200 dX12_holds_193 (by decide) (fun c70 => ?_) (fun c70 => ?_)
            · replace hf := (if_pos c70).symm.trans hf
              refine x_iconst X (v := 1) dX12_holds_196 (by decide) ?_
              refine x_goto X 243 dX12_holds_197 (by decide) ?_
              refine x_lv [3, 4, 5, 6, 7, 8] rfl ?_
              exact k_X12_holds_243 hω X R _ ih h _ _ _ _ _ _ _ hf
            · replace hf := (if_neg c70).symm.trans hf
              refine x_iconst X (v := 0) dX12_holds_200 (by decide) ?_
              refine x_goto X 243 dX12_holds_201 (by decide) ?_
              refine x_lv [3, 4, 5, 6, 7, 8] rfl ?_
              exact k_X12_holds_243 hω X R _ ih h _ _ _ _ _ _ _ hf
          · replace hf := (if_neg c68).symm.trans hf
            refine x_iload X dX12_holds_204 0 rfl ?_
            refine x_iconst X (v := 1) dX12_holds_206 (by decide) ?_
            refine x_icmp_ne X 228 dX12_holds_207 (by decide) (fun c81 => ?_) (fun c81 => ?_)
            · replace hf := (if_pos c81).symm.trans hf
              refine x_iload X dX12_holds_210 1 rfl ?_
              refine x_iload X dX12_holds_212 2 rfl ?_
              refine x_bipush X (v := 100) dX12_holds_214 (by decide) ?_
              obtain ⟨z82, hf⟩ := nz_some hf
              refine x_irem X dX12_holds_216 z82 ?_
              refine x_icmp_ne X 224 dX12_holds_217 (by decide) (fun c83 => ?_) (fun c83 => ?_)
              · replace hf := (if_pos c83).symm.trans hf
                refine x_iconst X (v := 1) dX12_holds_220 (by decide) ?_
                refine x_goto X 243 dX12_holds_221 (by decide) ?_
                refine x_lv [3, 4, 5, 6, 7, 8] rfl ?_
                exact k_X12_holds_243 hω X R _ ih h _ _ _ _ _ _ _ hf
              · replace hf := (if_neg c83).symm.trans hf
                refine x_iconst X (v := 0) dX12_holds_224 (by decide) ?_
                refine x_goto X 243 dX12_holds_225 (by decide) ?_
                refine x_lv [3, 4, 5, 6, 7, 8] rfl ?_
                exact k_X12_holds_243 hω X R _ ih h _ _ _ _ _ _ _ hf
            · replace hf := (if_neg c81).symm.trans hf
              refine x_iload X dX12_holds_228 1 rfl ?_
              refine x_iload X dX12_holds_230 2 rfl ?_
              refine x_bipush X (v := 100) dX12_holds_232 (by decide) ?_
              obtain ⟨z84, hf⟩ := nz_some hf
              refine x_irem X dX12_holds_234 z84 ?_
              refine x_icmp_le X 242 dX12_holds_235 (by decide) (fun c85 => ?_) (fun c85 => ?_)
              · replace hf := (if_pos c85).symm.trans hf
                refine x_iconst X (v := 1) dX12_holds_238 (by decide) ?_
                refine x_goto X 243 dX12_holds_239 (by decide) ?_
                refine x_lv [3, 4, 5, 6, 7, 8] rfl ?_
                exact k_X12_holds_243 hω X R _ ih h _ _ _ _ _ _ _ hf
              · replace hf := (if_neg c85).symm.trans hf
                refine x_iconst X (v := 0) dX12_holds_242 (by decide) ?_
                refine x_lv [3, 4, 5, 6, 7, 8] rfl ?_
                exact k_X12_holds_243 hω X R _ ih h _ _ _ _ _ _ _ hf
    · replace hf := (if_neg c9).symm.trans hf
      refine x_aload_n X dX12_holds_253 0 rfl rfl ?_
      refine x_getsj X (i := 52) 15 fl_X12_86_13 (sdM_52 hω) (ks_52 _) rfl (j := 67) rfl dX12_holds_254 ?_
      refine x_iconst X (v := 0) dX12_holds_257 (by decide) ?_
      obtain ⟨z86, hf⟩ := chk_some hf
      refine x_zald X (i := 67) (n := 100) (sdM_67 hω) (ks_67 _) z86 dX12_holds_258 ?_
      obtain ⟨z87, hf⟩ := ckZ_some hf
      exact x_retSZ X R z87 hf dX12_holds_259
set_option maxRecDepth 100000 in
set_option maxHeartbeats 4000000 in
theorem k_X12_holds {ω : XO} (hω : ω.2.2.2.1 = 0) {L : List Nat} {q : Nat → Nat} {h h' : hp} {p0 : Int32} {p1 : Int32} {p2 : Int32} {r : Int32} (hf : f_X12_holds h p0 p1 p2 = some (h', r)) : XM ω yX12_holds cX12_holds 9 (some .boolean) rm_X12_holds L q h [.ref (q 52), .int p0, .int p1, .int p2] (some (.int r)) h' := by
  refine XM_intro [(0, .ref (q 52)), (1, .int p0), (2, .int p1), (3, .int p2)] "SignalBlindModel" (by decide) rfl rfl (Nat.le_of_ble_eq_true rfl) (fun κ X R => ?_)
  unfold f_X12_holds at hf
  refine x_iconst X (v := 0) dX12_holds_0 (by decide) ?_
  refine x_istore X [(4, .int (0 : Int32)), (0, .ref (q 52)), (1, .int p0), (2, .int p1), (3, .int p2)] dX12_holds_1 (Nat.le_of_ble_eq_true rfl) rfl ?_
  refine x_aload_n X dX12_holds_3 1 rfl rfl ?_
  refine x_getsj X (i := 52) 10 fl_X12_62_13 (sdM_52 hω) (ks_52 _) rfl (j := 62) rfl dX12_holds_4 ?_
  refine x_iload_n X dX12_holds_7 2 rfl rfl ?_
  obtain ⟨z1, hf⟩ := chk_some hf
  refine x_iald X (i := 62) (n := 60) (sdM_62 hω) (ks_62 _) z1 dX12_holds_8 ?_
  obtain ⟨v2, ev2, hf⟩ := nm_some hf
  refine x_nmI ev2 ?_
  refine x_istore X [(5, .int v2), (4, .int (0 : Int32)), (0, .ref (q 52)), (1, .int p0), (2, .int p1), (3, .int p2)] dX12_holds_9 (Nat.le_of_ble_eq_true rfl) rfl ?_
  refine x_lv [2, 3, 4, 5, 1, 0] rfl ?_
  exact k_X12_holds_11 hω X R _ h _ _ _ _ _ hf
theorem mt_X12_holds : MT yX12_holds cX12_holds 9 (some .boolean) "SignalBlindModel" 3 := ⟨(mT_6 110 rfl rfl), (mTp (q := (yX12_holds, 61)) (by decide +kernel) rfl), (mT_1 10 rfl rfl), (mT_6 111 rfl rfl), by decide⟩
theorem c_X12_274 {ω : XO} {rm : Room} {nL : Nat} {κ : XK} {cc : ByteArray} (X : XC ω rm nL κ cc "SignalBlindModel") (hω : ω.2.2.2.1 = 0) {L : List Nat} {q : Nat → Nat} {h h' : hp} {cells slots pc : Nat} {lv : List (Nat × Value)} {rest : List Value} {p0 : Int32} {p1 : Int32} {p2 : Int32} {r : Int32} (hf : f_X12_holds h p0 p1 p2 = some (h', r)) (hR : rm_X12_holds.frames + 1 ≤ rm.frames ∧ 8 + (9 + 11) + rm_X12_holds.locals ≤ rm.locals) (hcs : cells ≤ rm.cells ∧ slots ≤ rm.slots) (hroom : (rest.map fun v => v.category).sum ≤ 8) (hd : decode cc pc = .ok (.invokevirtual 274, 3)) (kk : XG ω rm nL κ L q h' cells slots (pc + 3) lv (.int r :: rest)) : XG ω rm nL κ L q h cells slots pc lv (.int p2 :: .int p1 :: .int p0 :: .ref (q 52) :: rest) := x_callV X [.int p0, .int p1, .int p2] rest (k_X12_holds hω hf) mt_X12_holds (mT_6 108 rfl rfl) hR ⟨rfl, rfl⟩ hcs (sdM_52 hω) (ks_52 _) (by decide) rfl rfl hroom hd kk
