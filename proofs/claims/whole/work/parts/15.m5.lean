abbrev rm_X12_image : Room := { frames := 0, cells := 0, slots := 0, locals := 0 }
def f_X12_image_162 : Nat → hp → Int32 → Option (hp × Int32)
  | 0, _, _ => none
  | n + 1, h, a33 => (if a33 < (8 : Int32) then
 (chk a33 8
 (chk a33 8
 (nm (tI h 76 (a33).toNatClampNeg (aI h 53 (a33).toNatClampNeg)) fun h37 =>
 (chk a33 8
 (chk a33 8
 (nm (tI h37 83 (a33).toNatClampNeg (aI h37 73 (a33).toNatClampNeg)) fun h40 =>
 (chk a33 8
 (chk a33 8
 (nm (tI h40 84 (a33).toNatClampNeg (aI h40 74 (a33).toNatClampNeg)) fun h43 =>
 (chk a33 8
 (chk a33 8
 (nm (tI h43 85 (a33).toNatClampNeg (aI h43 75 (a33).toNatClampNeg)) fun h46 =>
 (nm (a33 + (1 : Int32)) fun v47 =>
 ((f_X12_image_162 n) h46 v47))))))))))))))
 else
 (some (h, (hI h 52 1))))
def f_X12_image_136 : Nat → hp → Int32 → Option (hp × Int32)
  | 0, _, _ => none
  | n + 1, h, a27 => (if a27 < (20 : Int32) then
 (chk a27 20
 (chk a27 20
 (nm (tI h 80 (a27).toNatClampNeg (aI h 57 (a27).toNatClampNeg)) fun h31 =>
 (nm (a27 + (1 : Int32)) fun v32 =>
 ((f_X12_image_136 n) h31 v32)))))
 else
 (f_X12_image_162 2000 h (0 : Int32)))
def f_X12_image_63 : Nat → hp → Int32 → Option (hp × Int32)
  | 0, _, _ => none
  | n + 1, h, a9 => (if a9 < (5 : Int32) then
 (chk a9 5
 (chk a9 5
 (nm (tI h 77 (a9).toNatClampNeg (aI h 54 (a9).toNatClampNeg)) fun h13 =>
 (chk a9 5
 (chk a9 5
 (nm (tI h13 78 (a9).toNatClampNeg (aI h13 55 (a9).toNatClampNeg)) fun h16 =>
 (chk a9 5
 (chk a9 5
 (nm (tI h16 79 (a9).toNatClampNeg (aI h16 56 (a9).toNatClampNeg)) fun h19 =>
 (chk a9 5
 (chk a9 5
 (nm (tI h19 81 (a9).toNatClampNeg (aI h19 71 (a9).toNatClampNeg)) fun h22 =>
 (chk a9 5
 (chk a9 5
 (nm (tI h22 82 (a9).toNatClampNeg (aI h22 72 (a9).toNatClampNeg)) fun h25 =>
 (nm (a9 + (1 : Int32)) fun v26 =>
 ((f_X12_image_63 n) h25 v26)))))))))))))))))
 else
 (f_X12_image_136 2000 h (0 : Int32)))
def f_X12_image (h : hp) : Option (hp × Int32) := (nm (sI h 52 37 (1 : Int32)) fun h1 =>
 (nm (sI h1 52 38 (hI h1 52 9)) fun h2 =>
 (nm (sI h2 52 39 (hI h2 52 0)) fun h3 =>
 (nm (sI h3 52 40 (hI h3 52 1)) fun h4 =>
 (nm (sI h4 52 41 (hI h4 52 2)) fun h5 =>
 (nm (sI h5 52 42 (hI h5 52 29)) fun h6 =>
 (nm (sI h6 52 43 (hI h6 52 32)) fun h7 =>
 (nm (sI h7 52 44 (hI h7 52 33)) fun h8 =>
 (f_X12_image_63 2000 h8 (0 : Int32))))))))))
set_option maxRecDepth 100000 in
set_option maxHeartbeats 4000000 in
theorem k_X12_image_162 {ω : XO} (hω : ω.2.2.2.1 = 0) {κ : XK} (X : XC ω rm_X12_image 2 κ cX12_image "SignalBlindModel") {L : List Nat} {q : Nat → Nat} {h' : hp} {r : Int32} (R : XRet ω rm_X12_image κ (some .int) L q h' (some (.int r))) : ∀ (n : Nat) (h : hp) (a33 : Int32), f_X12_image_162 n h a33 = some (h', r) → XG ω rm_X12_image 2 κ L q h 0 0 162 [(0, .ref (q 52)), (1, .int a33)] [] := by
  intro n
  induction n with
  | zero =>
    intro h a33 hf
    have hf : (none : Option (hp × Int32)) = some (h', r) := hf
    cases hf
  | succ n ih =>
    intro h a33 hf
    rw [f_X12_image_162] at hf
    refine x_iload_n X dX12_image_162 1 rfl rfl ?_
    refine x_bipush X (v := 8) dX12_image_163 (by decide) ?_
    refine x_icmp_ge X 222 dX12_image_165 (by decide) (fun c34 => ?_) (fun c34 => ?_)
    · replace hf := (if_pos c34).symm.trans hf
      refine x_aload_n X dX12_image_168 0 rfl rfl ?_
      refine x_getsj X (i := 52) 24 fl_X12_148_13 (sdM_52 hω) (ks_52 _) rfl (j := 76) rfl dX12_image_169 ?_
      refine x_iload_n X dX12_image_172 1 rfl rfl ?_
      refine x_aload_n X dX12_image_173 0 rfl rfl ?_
      refine x_getsj X (i := 52) 1 fl_X12_19_13 (sdM_52 hω) (ks_52 _) rfl (j := 53) rfl dX12_image_174 ?_
      refine x_iload_n X dX12_image_177 1 rfl rfl ?_
      obtain ⟨z35, hf⟩ := chk_some hf
      refine x_iald X (i := 53) (n := 8) (sdM_53 hω) (ks_53 _) z35 dX12_image_178 ?_
      obtain ⟨z36, hf⟩ := chk_some hf
      refine x_iast X (i := 76) (n := 8) (sdM_76 hω) (ks_76 _) z36 dX12_image_179 ?_
      obtain ⟨h37, eh37, hf⟩ := nm_some hf
      refine x_nmh eh37 ?_
      refine x_aload_n X dX12_image_180 0 rfl rfl ?_
      refine x_getsj X (i := 52) 31 fl_X12_169_13 (sdM_52 hω) (ks_52 _) rfl (j := 83) rfl dX12_image_181 ?_
      refine x_iload_n X dX12_image_184 1 rfl rfl ?_
      refine x_aload_n X dX12_image_185 0 rfl rfl ?_
      refine x_getsj X (i := 52) 21 fl_X12_114_13 (sdM_52 hω) (ks_52 _) rfl (j := 73) rfl dX12_image_186 ?_
      refine x_iload_n X dX12_image_189 1 rfl rfl ?_
      obtain ⟨z38, hf⟩ := chk_some hf
      refine x_iald X (i := 73) (n := 8) (sdM_73 hω) (ks_73 _) z38 dX12_image_190 ?_
      obtain ⟨z39, hf⟩ := chk_some hf
      refine x_iast X (i := 83) (n := 8) (sdM_83 hω) (ks_83 _) z39 dX12_image_191 ?_
      obtain ⟨h40, eh40, hf⟩ := nm_some hf
      refine x_nmh eh40 ?_
      refine x_aload_n X dX12_image_192 0 rfl rfl ?_
      refine x_getsj X (i := 52) 32 fl_X12_172_13 (sdM_52 hω) (ks_52 _) rfl (j := 84) rfl dX12_image_193 ?_
      refine x_iload_n X dX12_image_196 1 rfl rfl ?_
      refine x_aload_n X dX12_image_197 0 rfl rfl ?_
      refine x_getsj X (i := 52) 22 fl_X12_117_13 (sdM_52 hω) (ks_52 _) rfl (j := 74) rfl dX12_image_198 ?_
      refine x_iload_n X dX12_image_201 1 rfl rfl ?_
      obtain ⟨z41, hf⟩ := chk_some hf
      refine x_iald X (i := 74) (n := 8) (sdM_74 hω) (ks_74 _) z41 dX12_image_202 ?_
      obtain ⟨z42, hf⟩ := chk_some hf
      refine x_iast X (i := 84) (n := 8) (sdM_84 hω) (ks_84 _) z42 dX12_image_203 ?_
      obtain ⟨h43, eh43, hf⟩ := nm_some hf
      refine x_nmh eh43 ?_
      refine x_aload_n X dX12_image_204 0 rfl rfl ?_
      refine x_getsj X (i := 52) 33 fl_X12_175_13 (sdM_52 hω) (ks_52 _) rfl (j := 85) rfl dX12_image_205 ?_
      refine x_iload_n X dX12_image_208 1 rfl rfl ?_
      refine x_aload_n X dX12_image_209 0 rfl rfl ?_
      refine x_getsj X (i := 52) 23 fl_X12_120_13 (sdM_52 hω) (ks_52 _) rfl (j := 75) rfl dX12_image_210 ?_
      refine x_iload_n X dX12_image_213 1 rfl rfl ?_
      obtain ⟨z44, hf⟩ := chk_some hf
      refine x_iald X (i := 75) (n := 8) (sdM_75 hω) (ks_75 _) z44 dX12_image_214 ?_
      obtain ⟨z45, hf⟩ := chk_some hf
      refine x_iast X (i := 85) (n := 8) (sdM_85 hω) (ks_85 _) z45 dX12_image_215 ?_
      obtain ⟨h46, eh46, hf⟩ := nm_some hf
      refine x_nmh eh46 ?_
      obtain ⟨v47, ev47, hf⟩ := nm_some hf
      refine x_iincN X (v := 1) ev47 [(1, .int v47), (0, .ref (q 52))] dX12_image_216 1 rfl (by decide) (Nat.le_of_ble_eq_true rfl) rfl ?_
      refine x_goto X 162 dX12_image_219 (by decide) ?_
      refine x_lv [1, 0] rfl ?_
      exact ih h46 _ hf
    · replace hf := (if_neg c34).symm.trans hf
      refine x_aload_n X dX12_image_222 0 rfl rfl ?_
      refine x_geti X (i := 52) fl_X12_13_13 (sdM_52 hω) (ks_52 _) rfl dX12_image_223 ?_
      exact x_retSI X R hf dX12_image_226
set_option maxRecDepth 100000 in
set_option maxHeartbeats 4000000 in
theorem k_X12_image_136 {ω : XO} (hω : ω.2.2.2.1 = 0) {κ : XK} (X : XC ω rm_X12_image 2 κ cX12_image "SignalBlindModel") {L : List Nat} {q : Nat → Nat} {h' : hp} {r : Int32} (R : XRet ω rm_X12_image κ (some .int) L q h' (some (.int r))) : ∀ (n : Nat) (h : hp) (a27 : Int32), f_X12_image_136 n h a27 = some (h', r) → XG ω rm_X12_image 2 κ L q h 0 0 136 [(0, .ref (q 52)), (1, .int a27)] [] := by
  intro n
  induction n with
  | zero =>
    intro h a27 hf
    have hf : (none : Option (hp × Int32)) = some (h', r) := hf
    cases hf
  | succ n ih =>
    intro h a27 hf
    rw [f_X12_image_136] at hf
    refine x_iload_n X dX12_image_136 1 rfl rfl ?_
    refine x_bipush X (v := 20) dX12_image_137 (by decide) ?_
    refine x_icmp_ge X 160 dX12_image_139 (by decide) (fun c28 => ?_) (fun c28 => ?_)
    · replace hf := (if_pos c28).symm.trans hf
      refine x_aload_n X dX12_image_142 0 rfl rfl ?_
      refine x_getsj X (i := 52) 28 fl_X12_160_13 (sdM_52 hω) (ks_52 _) rfl (j := 80) rfl dX12_image_143 ?_
      refine x_iload_n X dX12_image_146 1 rfl rfl ?_
      refine x_aload_n X dX12_image_147 0 rfl rfl ?_
      refine x_getsj X (i := 52) 5 fl_X12_32_13 (sdM_52 hω) (ks_52 _) rfl (j := 57) rfl dX12_image_148 ?_
      refine x_iload_n X dX12_image_151 1 rfl rfl ?_
      obtain ⟨z29, hf⟩ := chk_some hf
      refine x_iald X (i := 57) (n := 20) (sdM_57 hω) (ks_57 _) z29 dX12_image_152 ?_
      obtain ⟨z30, hf⟩ := chk_some hf
      refine x_iast X (i := 80) (n := 20) (sdM_80 hω) (ks_80 _) z30 dX12_image_153 ?_
      obtain ⟨h31, eh31, hf⟩ := nm_some hf
      refine x_nmh eh31 ?_
      obtain ⟨v32, ev32, hf⟩ := nm_some hf
      refine x_iincN X (v := 1) ev32 [(1, .int v32), (0, .ref (q 52))] dX12_image_154 1 rfl (by decide) (Nat.le_of_ble_eq_true rfl) rfl ?_
      refine x_goto X 136 dX12_image_157 (by decide) ?_
      refine x_lv [1, 0] rfl ?_
      exact ih h31 _ hf
    · replace hf := (if_neg c28).symm.trans hf
      refine x_iconst X (v := 0) dX12_image_160 (by decide) ?_
      refine x_istore_n X [(1, .int (0 : Int32)), (0, .ref (q 52))] dX12_image_161 rfl (Nat.le_of_ble_eq_true rfl) rfl ?_
      refine x_lv [1, 0] rfl ?_
      exact k_X12_image_162 hω X R _ h _ hf
set_option maxRecDepth 100000 in
set_option maxHeartbeats 4000000 in
theorem k_X12_image_63 {ω : XO} (hω : ω.2.2.2.1 = 0) {κ : XK} (X : XC ω rm_X12_image 2 κ cX12_image "SignalBlindModel") {L : List Nat} {q : Nat → Nat} {h' : hp} {r : Int32} (R : XRet ω rm_X12_image κ (some .int) L q h' (some (.int r))) : ∀ (n : Nat) (h : hp) (a9 : Int32), f_X12_image_63 n h a9 = some (h', r) → XG ω rm_X12_image 2 κ L q h 0 0 63 [(0, .ref (q 52)), (1, .int a9)] [] := by
  intro n
  induction n with
  | zero =>
    intro h a9 hf
    have hf : (none : Option (hp × Int32)) = some (h', r) := hf
    cases hf
  | succ n ih =>
    intro h a9 hf
    rw [f_X12_image_63] at hf
    refine x_iload_n X dX12_image_63 1 rfl rfl ?_
    refine x_iconst X (v := 5) dX12_image_64 (by decide) ?_
    refine x_icmp_ge X 134 dX12_image_65 (by decide) (fun c10 => ?_) (fun c10 => ?_)
    · replace hf := (if_pos c10).symm.trans hf
      refine x_aload_n X dX12_image_68 0 rfl rfl ?_
      refine x_getsj X (i := 52) 25 fl_X12_151_13 (sdM_52 hω) (ks_52 _) rfl (j := 77) rfl dX12_image_69 ?_
      refine x_iload_n X dX12_image_72 1 rfl rfl ?_
      refine x_aload_n X dX12_image_73 0 rfl rfl ?_
      refine x_getsj X (i := 52) 2 fl_X12_23_13 (sdM_52 hω) (ks_52 _) rfl (j := 54) rfl dX12_image_74 ?_
      refine x_iload_n X dX12_image_77 1 rfl rfl ?_
      obtain ⟨z11, hf⟩ := chk_some hf
      refine x_iald X (i := 54) (n := 5) (sdM_54 hω) (ks_54 _) z11 dX12_image_78 ?_
      obtain ⟨z12, hf⟩ := chk_some hf
      refine x_iast X (i := 77) (n := 5) (sdM_77 hω) (ks_77 _) z12 dX12_image_79 ?_
      obtain ⟨h13, eh13, hf⟩ := nm_some hf
      refine x_nmh eh13 ?_
      refine x_aload_n X dX12_image_80 0 rfl rfl ?_
      refine x_getsj X (i := 52) 26 fl_X12_154_13 (sdM_52 hω) (ks_52 _) rfl (j := 78) rfl dX12_image_81 ?_
      refine x_iload_n X dX12_image_84 1 rfl rfl ?_
      refine x_aload_n X dX12_image_85 0 rfl rfl ?_
      refine x_getsj X (i := 52) 3 fl_X12_26_13 (sdM_52 hω) (ks_52 _) rfl (j := 55) rfl dX12_image_86 ?_
      refine x_iload_n X dX12_image_89 1 rfl rfl ?_
      obtain ⟨z14, hf⟩ := chk_some hf
      refine x_iald X (i := 55) (n := 5) (sdM_55 hω) (ks_55 _) z14 dX12_image_90 ?_
      obtain ⟨z15, hf⟩ := chk_some hf
      refine x_iast X (i := 78) (n := 5) (sdM_78 hω) (ks_78 _) z15 dX12_image_91 ?_
      obtain ⟨h16, eh16, hf⟩ := nm_some hf
      refine x_nmh eh16 ?_
      refine x_aload_n X dX12_image_92 0 rfl rfl ?_
      refine x_getsj X (i := 52) 27 fl_X12_157_13 (sdM_52 hω) (ks_52 _) rfl (j := 79) rfl dX12_image_93 ?_
      refine x_iload_n X dX12_image_96 1 rfl rfl ?_
      refine x_aload_n X dX12_image_97 0 rfl rfl ?_
      refine x_getsj X (i := 52) 4 fl_X12_29_13 (sdM_52 hω) (ks_52 _) rfl (j := 56) rfl dX12_image_98 ?_
      refine x_iload_n X dX12_image_101 1 rfl rfl ?_
      obtain ⟨z17, hf⟩ := chk_some hf
      refine x_iald X (i := 56) (n := 5) (sdM_56 hω) (ks_56 _) z17 dX12_image_102 ?_
      obtain ⟨z18, hf⟩ := chk_some hf
      refine x_iast X (i := 79) (n := 5) (sdM_79 hω) (ks_79 _) z18 dX12_image_103 ?_
      obtain ⟨h19, eh19, hf⟩ := nm_some hf
      refine x_nmh eh19 ?_
      refine x_aload_n X dX12_image_104 0 rfl rfl ?_
      refine x_getsj X (i := 52) 29 fl_X12_163_13 (sdM_52 hω) (ks_52 _) rfl (j := 81) rfl dX12_image_105 ?_
      refine x_iload_n X dX12_image_108 1 rfl rfl ?_
      refine x_aload_n X dX12_image_109 0 rfl rfl ?_
      refine x_getsj X (i := 52) 19 fl_X12_102_13 (sdM_52 hω) (ks_52 _) rfl (j := 71) rfl dX12_image_110 ?_
      refine x_iload_n X dX12_image_113 1 rfl rfl ?_
      obtain ⟨z20, hf⟩ := chk_some hf
      refine x_iald X (i := 71) (n := 5) (sdM_71 hω) (ks_71 _) z20 dX12_image_114 ?_
      obtain ⟨z21, hf⟩ := chk_some hf
      refine x_iast X (i := 81) (n := 5) (sdM_81 hω) (ks_81 _) z21 dX12_image_115 ?_
      obtain ⟨h22, eh22, hf⟩ := nm_some hf
      refine x_nmh eh22 ?_
      refine x_aload_n X dX12_image_116 0 rfl rfl ?_
      refine x_getsj X (i := 52) 30 fl_X12_166_13 (sdM_52 hω) (ks_52 _) rfl (j := 82) rfl dX12_image_117 ?_
      refine x_iload_n X dX12_image_120 1 rfl rfl ?_
      refine x_aload_n X dX12_image_121 0 rfl rfl ?_
      refine x_getsj X (i := 52) 20 fl_X12_105_13 (sdM_52 hω) (ks_52 _) rfl (j := 72) rfl dX12_image_122 ?_
      refine x_iload_n X dX12_image_125 1 rfl rfl ?_
      obtain ⟨z23, hf⟩ := chk_some hf
      refine x_iald X (i := 72) (n := 5) (sdM_72 hω) (ks_72 _) z23 dX12_image_126 ?_
      obtain ⟨z24, hf⟩ := chk_some hf
      refine x_iast X (i := 82) (n := 5) (sdM_82 hω) (ks_82 _) z24 dX12_image_127 ?_
      obtain ⟨h25, eh25, hf⟩ := nm_some hf
      refine x_nmh eh25 ?_
      obtain ⟨v26, ev26, hf⟩ := nm_some hf
      refine x_iincN X (v := 1) ev26 [(1, .int v26), (0, .ref (q 52))] dX12_image_128 1 rfl (by decide) (Nat.le_of_ble_eq_true rfl) rfl ?_
      refine x_goto X 63 dX12_image_131 (by decide) ?_
      refine x_lv [1, 0] rfl ?_
      exact ih h25 _ hf
    · replace hf := (if_neg c10).symm.trans hf
      refine x_iconst X (v := 0) dX12_image_134 (by decide) ?_
      refine x_istore_n X [(1, .int (0 : Int32)), (0, .ref (q 52))] dX12_image_135 rfl (Nat.le_of_ble_eq_true rfl) rfl ?_
      refine x_lv [1, 0] rfl ?_
      exact k_X12_image_136 hω X R _ h _ hf
set_option maxRecDepth 100000 in
set_option maxHeartbeats 4000000 in
theorem k_X12_image {ω : XO} (hω : ω.2.2.2.1 = 0) {L : List Nat} {q : Nat → Nat} {h h' : hp}  {r : Int32} (hf : f_X12_image h = some (h', r)) : XM ω yX12_image cX12_image 2 (some .int) rm_X12_image L q h [.ref (q 52)] (some (.int r)) h' := by
  refine XM_intro [(0, .ref (q 52))] "SignalBlindModel" (by decide) rfl rfl (Nat.le_of_ble_eq_true rfl) (fun κ X R => ?_)
  unfold f_X12_image at hf
  refine x_aload_n X dX12_image_0 0 rfl rfl ?_
  refine x_iconst X (v := 1) dX12_image_1 (by decide) ?_
  refine x_puti X (i := 52) fl_X12_123_13 fw_13 (sdM_52 hω) (ks_52 _) rfl rfl rfl rfl dX12_image_2 ?_
  obtain ⟨h1, eh1, hf⟩ := nm_some hf
  refine x_nmh eh1 ?_
  refine x_aload_n X dX12_image_5 0 rfl rfl ?_
  refine x_aload_n X dX12_image_6 0 rfl rfl ?_
  refine x_geti X (i := 52) fl_X12_38_13 (sdM_52 hω) (ks_52 _) rfl dX12_image_7 ?_
  refine x_puti X (i := 52) fl_X12_127_13 fw_13 (sdM_52 hω) (ks_52 _) rfl rfl rfl rfl dX12_image_10 ?_
  obtain ⟨h2, eh2, hf⟩ := nm_some hf
  refine x_nmh eh2 ?_
  refine x_aload_n X dX12_image_13 0 rfl rfl ?_
  refine x_aload_n X dX12_image_14 0 rfl rfl ?_
  refine x_geti X (i := 52) fl_X12_7_13 (sdM_52 hω) (ks_52 _) rfl dX12_image_15 ?_
  refine x_puti X (i := 52) fl_X12_130_13 fw_13 (sdM_52 hω) (ks_52 _) rfl rfl rfl rfl dX12_image_18 ?_
  obtain ⟨h3, eh3, hf⟩ := nm_some hf
  refine x_nmh eh3 ?_
  refine x_aload_n X dX12_image_21 0 rfl rfl ?_
  refine x_aload_n X dX12_image_22 0 rfl rfl ?_
  refine x_geti X (i := 52) fl_X12_13_13 (sdM_52 hω) (ks_52 _) rfl dX12_image_23 ?_
  refine x_puti X (i := 52) fl_X12_133_13 fw_13 (sdM_52 hω) (ks_52 _) rfl rfl rfl rfl dX12_image_26 ?_
  obtain ⟨h4, eh4, hf⟩ := nm_some hf
  refine x_nmh eh4 ?_
  refine x_aload_n X dX12_image_29 0 rfl rfl ?_
  refine x_aload_n X dX12_image_30 0 rfl rfl ?_
  refine x_geti X (i := 52) fl_X12_16_13 (sdM_52 hω) (ks_52 _) rfl dX12_image_31 ?_
  refine x_puti X (i := 52) fl_X12_136_13 fw_13 (sdM_52 hω) (ks_52 _) rfl rfl rfl rfl dX12_image_34 ?_
  obtain ⟨h5, eh5, hf⟩ := nm_some hf
  refine x_nmh eh5 ?_
  refine x_aload_n X dX12_image_37 0 rfl rfl ?_
  refine x_aload_n X dX12_image_38 0 rfl rfl ?_
  refine x_geti X (i := 52) fl_X12_99_13 (sdM_52 hω) (ks_52 _) rfl dX12_image_39 ?_
  refine x_puti X (i := 52) fl_X12_139_13 fw_13 (sdM_52 hω) (ks_52 _) rfl rfl rfl rfl dX12_image_42 ?_
  obtain ⟨h6, eh6, hf⟩ := nm_some hf
  refine x_nmh eh6 ?_
  refine x_aload_n X dX12_image_45 0 rfl rfl ?_
  refine x_aload_n X dX12_image_46 0 rfl rfl ?_
  refine x_geti X (i := 52) fl_X12_108_13 (sdM_52 hω) (ks_52 _) rfl dX12_image_47 ?_
  refine x_puti X (i := 52) fl_X12_142_13 fw_13 (sdM_52 hω) (ks_52 _) rfl rfl rfl rfl dX12_image_50 ?_
  obtain ⟨h7, eh7, hf⟩ := nm_some hf
  refine x_nmh eh7 ?_
  refine x_aload_n X dX12_image_53 0 rfl rfl ?_
  refine x_aload_n X dX12_image_54 0 rfl rfl ?_
  refine x_geti X (i := 52) fl_X12_111_13 (sdM_52 hω) (ks_52 _) rfl dX12_image_55 ?_
  refine x_puti X (i := 52) fl_X12_145_13 fw_13 (sdM_52 hω) (ks_52 _) rfl rfl rfl rfl dX12_image_58 ?_
  obtain ⟨h8, eh8, hf⟩ := nm_some hf
  refine x_nmh eh8 ?_
  refine x_iconst X (v := 0) dX12_image_61 (by decide) ?_
  refine x_istore_n X [(1, .int (0 : Int32)), (0, .ref (q 52))] dX12_image_62 rfl (Nat.le_of_ble_eq_true rfl) rfl ?_
  refine x_lv [1, 0] rfl ?_
  exact k_X12_image_63 hω X R _ h8 _ hf
theorem mt_X12_image : MT yX12_image cX12_image 2 (some .int) "SignalBlindModel" 0 := ⟨(mT_7 18 rfl rfl), (mT_7 19 rfl rfl), (mT_1 10 rfl rfl), (mT_7 20 rfl rfl), by decide⟩

abbrev rm_X12_undo : Room := { frames := 0, cells := 0, slots := 0, locals := 0 }
def f_X12_undo_167 : Nat → hp → Int32 → Option (hp × Int32)
  | 0, _, _ => none
  | n + 1, h, a33 => (if a33 < (8 : Int32) then
 (chk a33 8
 (chk a33 8
 (nm (tI h 53 (a33).toNatClampNeg (aI h 76 (a33).toNatClampNeg)) fun h37 =>
 (chk a33 8
 (chk a33 8
 (nm (tI h37 73 (a33).toNatClampNeg (aI h37 83 (a33).toNatClampNeg)) fun h40 =>
 (chk a33 8
 (chk a33 8
 (nm (tI h40 74 (a33).toNatClampNeg (aI h40 84 (a33).toNatClampNeg)) fun h43 =>
 (chk a33 8
 (chk a33 8
 (nm (tI h43 75 (a33).toNatClampNeg (aI h43 85 (a33).toNatClampNeg)) fun h46 =>
 (nm (a33 + (1 : Int32)) fun v47 =>
 ((f_X12_undo_167 n) h46 v47))))))))))))))
 else
 (some (h, (hI h 52 1))))
def f_X12_undo_141 : Nat → hp → Int32 → Option (hp × Int32)
  | 0, _, _ => none
  | n + 1, h, a27 => (if a27 < (20 : Int32) then
 (chk a27 20
 (chk a27 20
 (nm (tI h 57 (a27).toNatClampNeg (aI h 80 (a27).toNatClampNeg)) fun h31 =>
 (nm (a27 + (1 : Int32)) fun v32 =>
 ((f_X12_undo_141 n) h31 v32)))))
 else
 (f_X12_undo_167 2000 h (0 : Int32)))
def f_X12_undo_68 : Nat → hp → Int32 → Option (hp × Int32)
  | 0, _, _ => none
  | n + 1, h, a9 => (if a9 < (5 : Int32) then
 (chk a9 5
 (chk a9 5
 (nm (tI h 54 (a9).toNatClampNeg (aI h 77 (a9).toNatClampNeg)) fun h13 =>
 (chk a9 5
 (chk a9 5
 (nm (tI h13 55 (a9).toNatClampNeg (aI h13 78 (a9).toNatClampNeg)) fun h16 =>
 (chk a9 5
 (chk a9 5
 (nm (tI h16 56 (a9).toNatClampNeg (aI h16 79 (a9).toNatClampNeg)) fun h19 =>
 (chk a9 5
 (chk a9 5
 (nm (tI h19 71 (a9).toNatClampNeg (aI h19 81 (a9).toNatClampNeg)) fun h22 =>
 (chk a9 5
 (chk a9 5
 (nm (tI h22 72 (a9).toNatClampNeg (aI h22 82 (a9).toNatClampNeg)) fun h25 =>
 (nm (a9 + (1 : Int32)) fun v26 =>
 ((f_X12_undo_68 n) h25 v26)))))))))))))))))
 else
 (f_X12_undo_141 2000 h (0 : Int32)))
def f_X12_undo (h : hp) : Option (hp × Int32) := (if (hI h 52 37) = 0 then
 (some (h, (-3 : Int32)))
 else
 (nm (sI h 52 9 (hI h 52 38)) fun h2 =>
 (nm (sI h2 52 0 (hI h2 52 39)) fun h3 =>
 (nm (sI h3 52 1 (hI h3 52 40)) fun h4 =>
 (nm (sI h4 52 2 (hI h4 52 41)) fun h5 =>
 (nm (sI h5 52 29 (hI h5 52 42)) fun h6 =>
 (nm (sI h6 52 32 (hI h6 52 43)) fun h7 =>
 (nm (sI h7 52 33 (hI h7 52 44)) fun h8 =>
 (f_X12_undo_68 2000 h8 (0 : Int32))))))))))
set_option maxRecDepth 100000 in
set_option maxHeartbeats 4000000 in
theorem k_X12_undo_167 {ω : XO} (hω : ω.2.2.2.1 = 0) {κ : XK} (X : XC ω rm_X12_undo 2 κ cX12_undo "SignalBlindModel") {L : List Nat} {q : Nat → Nat} {h' : hp} {r : Int32} (R : XRet ω rm_X12_undo κ (some .int) L q h' (some (.int r))) : ∀ (n : Nat) (h : hp) (a33 : Int32), f_X12_undo_167 n h a33 = some (h', r) → XG ω rm_X12_undo 2 κ L q h 0 0 167 [(0, .ref (q 52)), (1, .int a33)] [] := by
  intro n
  induction n with
  | zero =>
    intro h a33 hf
    have hf : (none : Option (hp × Int32)) = some (h', r) := hf
    cases hf
  | succ n ih =>
    intro h a33 hf
    rw [f_X12_undo_167] at hf
    refine x_iload_n X dX12_undo_167 1 rfl rfl ?_
    refine x_bipush X (v := 8) dX12_undo_168 (by decide) ?_
    refine x_icmp_ge X 227 dX12_undo_170 (by decide) (fun c34 => ?_) (fun c34 => ?_)
    · replace hf := (if_pos c34).symm.trans hf
      refine x_aload_n X dX12_undo_173 0 rfl rfl ?_
      refine x_getsj X (i := 52) 1 fl_X12_19_13 (sdM_52 hω) (ks_52 _) rfl (j := 53) rfl dX12_undo_174 ?_
      refine x_iload_n X dX12_undo_177 1 rfl rfl ?_
      refine x_aload_n X dX12_undo_178 0 rfl rfl ?_
      refine x_getsj X (i := 52) 24 fl_X12_148_13 (sdM_52 hω) (ks_52 _) rfl (j := 76) rfl dX12_undo_179 ?_
      refine x_iload_n X dX12_undo_182 1 rfl rfl ?_
      obtain ⟨z35, hf⟩ := chk_some hf
      refine x_iald X (i := 76) (n := 8) (sdM_76 hω) (ks_76 _) z35 dX12_undo_183 ?_
      obtain ⟨z36, hf⟩ := chk_some hf
      refine x_iast X (i := 53) (n := 8) (sdM_53 hω) (ks_53 _) z36 dX12_undo_184 ?_
      obtain ⟨h37, eh37, hf⟩ := nm_some hf
      refine x_nmh eh37 ?_
      refine x_aload_n X dX12_undo_185 0 rfl rfl ?_
      refine x_getsj X (i := 52) 21 fl_X12_114_13 (sdM_52 hω) (ks_52 _) rfl (j := 73) rfl dX12_undo_186 ?_
      refine x_iload_n X dX12_undo_189 1 rfl rfl ?_
      refine x_aload_n X dX12_undo_190 0 rfl rfl ?_
      refine x_getsj X (i := 52) 31 fl_X12_169_13 (sdM_52 hω) (ks_52 _) rfl (j := 83) rfl dX12_undo_191 ?_
      refine x_iload_n X dX12_undo_194 1 rfl rfl ?_
      obtain ⟨z38, hf⟩ := chk_some hf
      refine x_iald X (i := 83) (n := 8) (sdM_83 hω) (ks_83 _) z38 dX12_undo_195 ?_
      obtain ⟨z39, hf⟩ := chk_some hf
      refine x_iast X (i := 73) (n := 8) (sdM_73 hω) (ks_73 _) z39 dX12_undo_196 ?_
      obtain ⟨h40, eh40, hf⟩ := nm_some hf
      refine x_nmh eh40 ?_
      refine x_aload_n X dX12_undo_197 0 rfl rfl ?_
      refine x_getsj X (i := 52) 22 fl_X12_117_13 (sdM_52 hω) (ks_52 _) rfl (j := 74) rfl dX12_undo_198 ?_
      refine x_iload_n X dX12_undo_201 1 rfl rfl ?_
      refine x_aload_n X dX12_undo_202 0 rfl rfl ?_
      refine x_getsj X (i := 52) 32 fl_X12_172_13 (sdM_52 hω) (ks_52 _) rfl (j := 84) rfl dX12_undo_203 ?_
      refine x_iload_n X dX12_undo_206 1 rfl rfl ?_
      obtain ⟨z41, hf⟩ := chk_some hf
      refine x_iald X (i := 84) (n := 8) (sdM_84 hω) (ks_84 _) z41 dX12_undo_207 ?_
      obtain ⟨z42, hf⟩ := chk_some hf
      refine x_iast X (i := 74) (n := 8) (sdM_74 hω) (ks_74 _) z42 dX12_undo_208 ?_
      obtain ⟨h43, eh43, hf⟩ := nm_some hf
      refine x_nmh eh43 ?_
      refine x_aload_n X dX12_undo_209 0 rfl rfl ?_
      refine x_getsj X (i := 52) 23 fl_X12_120_13 (sdM_52 hω) (ks_52 _) rfl (j := 75) rfl dX12_undo_210 ?_
      refine x_iload_n X dX12_undo_213 1 rfl rfl ?_
      refine x_aload_n X dX12_undo_214 0 rfl rfl ?_
      refine x_getsj X (i := 52) 33 fl_X12_175_13 (sdM_52 hω) (ks_52 _) rfl (j := 85) rfl dX12_undo_215 ?_
      refine x_iload_n X dX12_undo_218 1 rfl rfl ?_
      obtain ⟨z44, hf⟩ := chk_some hf
      refine x_iald X (i := 85) (n := 8) (sdM_85 hω) (ks_85 _) z44 dX12_undo_219 ?_
      obtain ⟨z45, hf⟩ := chk_some hf
      refine x_iast X (i := 75) (n := 8) (sdM_75 hω) (ks_75 _) z45 dX12_undo_220 ?_
      obtain ⟨h46, eh46, hf⟩ := nm_some hf
      refine x_nmh eh46 ?_
      obtain ⟨v47, ev47, hf⟩ := nm_some hf
      refine x_iincN X (v := 1) ev47 [(1, .int v47), (0, .ref (q 52))] dX12_undo_221 1 rfl (by decide) (Nat.le_of_ble_eq_true rfl) rfl ?_
      refine x_goto X 167 dX12_undo_224 (by decide) ?_
      refine x_lv [1, 0] rfl ?_
      exact ih h46 _ hf
    · replace hf := (if_neg c34).symm.trans hf
      refine x_aload_n X dX12_undo_227 0 rfl rfl ?_
      refine x_geti X (i := 52) fl_X12_13_13 (sdM_52 hω) (ks_52 _) rfl dX12_undo_228 ?_
      exact x_retSI X R hf dX12_undo_231
set_option maxRecDepth 100000 in
set_option maxHeartbeats 4000000 in
theorem k_X12_undo_141 {ω : XO} (hω : ω.2.2.2.1 = 0) {κ : XK} (X : XC ω rm_X12_undo 2 κ cX12_undo "SignalBlindModel") {L : List Nat} {q : Nat → Nat} {h' : hp} {r : Int32} (R : XRet ω rm_X12_undo κ (some .int) L q h' (some (.int r))) : ∀ (n : Nat) (h : hp) (a27 : Int32), f_X12_undo_141 n h a27 = some (h', r) → XG ω rm_X12_undo 2 κ L q h 0 0 141 [(0, .ref (q 52)), (1, .int a27)] [] := by
  intro n
  induction n with
  | zero =>
    intro h a27 hf
    have hf : (none : Option (hp × Int32)) = some (h', r) := hf
    cases hf
  | succ n ih =>
    intro h a27 hf
    rw [f_X12_undo_141] at hf
    refine x_iload_n X dX12_undo_141 1 rfl rfl ?_
    refine x_bipush X (v := 20) dX12_undo_142 (by decide) ?_
    refine x_icmp_ge X 165 dX12_undo_144 (by decide) (fun c28 => ?_) (fun c28 => ?_)
    · replace hf := (if_pos c28).symm.trans hf
      refine x_aload_n X dX12_undo_147 0 rfl rfl ?_
      refine x_getsj X (i := 52) 5 fl_X12_32_13 (sdM_52 hω) (ks_52 _) rfl (j := 57) rfl dX12_undo_148 ?_
      refine x_iload_n X dX12_undo_151 1 rfl rfl ?_
      refine x_aload_n X dX12_undo_152 0 rfl rfl ?_
      refine x_getsj X (i := 52) 28 fl_X12_160_13 (sdM_52 hω) (ks_52 _) rfl (j := 80) rfl dX12_undo_153 ?_
      refine x_iload_n X dX12_undo_156 1 rfl rfl ?_
      obtain ⟨z29, hf⟩ := chk_some hf
      refine x_iald X (i := 80) (n := 20) (sdM_80 hω) (ks_80 _) z29 dX12_undo_157 ?_
      obtain ⟨z30, hf⟩ := chk_some hf
      refine x_iast X (i := 57) (n := 20) (sdM_57 hω) (ks_57 _) z30 dX12_undo_158 ?_
      obtain ⟨h31, eh31, hf⟩ := nm_some hf
      refine x_nmh eh31 ?_
      obtain ⟨v32, ev32, hf⟩ := nm_some hf
      refine x_iincN X (v := 1) ev32 [(1, .int v32), (0, .ref (q 52))] dX12_undo_159 1 rfl (by decide) (Nat.le_of_ble_eq_true rfl) rfl ?_
      refine x_goto X 141 dX12_undo_162 (by decide) ?_
      refine x_lv [1, 0] rfl ?_
      exact ih h31 _ hf
    · replace hf := (if_neg c28).symm.trans hf
      refine x_iconst X (v := 0) dX12_undo_165 (by decide) ?_
      refine x_istore_n X [(1, .int (0 : Int32)), (0, .ref (q 52))] dX12_undo_166 rfl (Nat.le_of_ble_eq_true rfl) rfl ?_
      refine x_lv [1, 0] rfl ?_
      exact k_X12_undo_167 hω X R _ h _ hf
set_option maxRecDepth 100000 in
set_option maxHeartbeats 4000000 in
theorem k_X12_undo_68 {ω : XO} (hω : ω.2.2.2.1 = 0) {κ : XK} (X : XC ω rm_X12_undo 2 κ cX12_undo "SignalBlindModel") {L : List Nat} {q : Nat → Nat} {h' : hp} {r : Int32} (R : XRet ω rm_X12_undo κ (some .int) L q h' (some (.int r))) : ∀ (n : Nat) (h : hp) (a9 : Int32), f_X12_undo_68 n h a9 = some (h', r) → XG ω rm_X12_undo 2 κ L q h 0 0 68 [(0, .ref (q 52)), (1, .int a9)] [] := by
  intro n
  induction n with
  | zero =>
    intro h a9 hf
    have hf : (none : Option (hp × Int32)) = some (h', r) := hf
    cases hf
  | succ n ih =>
    intro h a9 hf
    rw [f_X12_undo_68] at hf
    refine x_iload_n X dX12_undo_68 1 rfl rfl ?_
    refine x_iconst X (v := 5) dX12_undo_69 (by decide) ?_
    refine x_icmp_ge X 139 dX12_undo_70 (by decide) (fun c10 => ?_) (fun c10 => ?_)
    · replace hf := (if_pos c10).symm.trans hf
      refine x_aload_n X dX12_undo_73 0 rfl rfl ?_
      refine x_getsj X (i := 52) 2 fl_X12_23_13 (sdM_52 hω) (ks_52 _) rfl (j := 54) rfl dX12_undo_74 ?_
      refine x_iload_n X dX12_undo_77 1 rfl rfl ?_
      refine x_aload_n X dX12_undo_78 0 rfl rfl ?_
      refine x_getsj X (i := 52) 25 fl_X12_151_13 (sdM_52 hω) (ks_52 _) rfl (j := 77) rfl dX12_undo_79 ?_
      refine x_iload_n X dX12_undo_82 1 rfl rfl ?_
      obtain ⟨z11, hf⟩ := chk_some hf
      refine x_iald X (i := 77) (n := 5) (sdM_77 hω) (ks_77 _) z11 dX12_undo_83 ?_
      obtain ⟨z12, hf⟩ := chk_some hf
      refine x_iast X (i := 54) (n := 5) (sdM_54 hω) (ks_54 _) z12 dX12_undo_84 ?_
      obtain ⟨h13, eh13, hf⟩ := nm_some hf
      refine x_nmh eh13 ?_
      refine x_aload_n X dX12_undo_85 0 rfl rfl ?_
      refine x_getsj X (i := 52) 3 fl_X12_26_13 (sdM_52 hω) (ks_52 _) rfl (j := 55) rfl dX12_undo_86 ?_
      refine x_iload_n X dX12_undo_89 1 rfl rfl ?_
      refine x_aload_n X dX12_undo_90 0 rfl rfl ?_
      refine x_getsj X (i := 52) 26 fl_X12_154_13 (sdM_52 hω) (ks_52 _) rfl (j := 78) rfl dX12_undo_91 ?_
      refine x_iload_n X dX12_undo_94 1 rfl rfl ?_
      obtain ⟨z14, hf⟩ := chk_some hf
      refine x_iald X (i := 78) (n := 5) (sdM_78 hω) (ks_78 _) z14 dX12_undo_95 ?_
      obtain ⟨z15, hf⟩ := chk_some hf
      refine x_iast X (i := 55) (n := 5) (sdM_55 hω) (ks_55 _) z15 dX12_undo_96 ?_
      obtain ⟨h16, eh16, hf⟩ := nm_some hf
      refine x_nmh eh16 ?_
      refine x_aload_n X dX12_undo_97 0 rfl rfl ?_
      refine x_getsj X (i := 52) 4 fl_X12_29_13 (sdM_52 hω) (ks_52 _) rfl (j := 56) rfl dX12_undo_98 ?_
      refine x_iload_n X dX12_undo_101 1 rfl rfl ?_
      refine x_aload_n X dX12_undo_102 0 rfl rfl ?_
      refine x_getsj X (i := 52) 27 fl_X12_157_13 (sdM_52 hω) (ks_52 _) rfl (j := 79) rfl dX12_undo_103 ?_
      refine x_iload_n X dX12_undo_106 1 rfl rfl ?_
      obtain ⟨z17, hf⟩ := chk_some hf
      refine x_iald X (i := 79) (n := 5) (sdM_79 hω) (ks_79 _) z17 dX12_undo_107 ?_
      obtain ⟨z18, hf⟩ := chk_some hf
      refine x_iast X (i := 56) (n := 5) (sdM_56 hω) (ks_56 _) z18 dX12_undo_108 ?_
      obtain ⟨h19, eh19, hf⟩ := nm_some hf
      refine x_nmh eh19 ?_
      refine x_aload_n X dX12_undo_109 0 rfl rfl ?_
      refine x_getsj X (i := 52) 19 fl_X12_102_13 (sdM_52 hω) (ks_52 _) rfl (j := 71) rfl dX12_undo_110 ?_
      refine x_iload_n X dX12_undo_113 1 rfl rfl ?_
      refine x_aload_n X dX12_undo_114 0 rfl rfl ?_
      refine x_getsj X (i := 52) 29 fl_X12_163_13 (sdM_52 hω) (ks_52 _) rfl (j := 81) rfl dX12_undo_115 ?_
      refine x_iload_n X dX12_undo_118 1 rfl rfl ?_
      obtain ⟨z20, hf⟩ := chk_some hf
      refine x_iald X (i := 81) (n := 5) (sdM_81 hω) (ks_81 _) z20 dX12_undo_119 ?_
      obtain ⟨z21, hf⟩ := chk_some hf
      refine x_iast X (i := 71) (n := 5) (sdM_71 hω) (ks_71 _) z21 dX12_undo_120 ?_
      obtain ⟨h22, eh22, hf⟩ := nm_some hf
      refine x_nmh eh22 ?_
      refine x_aload_n X dX12_undo_121 0 rfl rfl ?_
      refine x_getsj X (i := 52) 20 fl_X12_105_13 (sdM_52 hω) (ks_52 _) rfl (j := 72) rfl dX12_undo_122 ?_
      refine x_iload_n X dX12_undo_125 1 rfl rfl ?_
      refine x_aload_n X dX12_undo_126 0 rfl rfl ?_
      refine x_getsj X (i := 52) 30 fl_X12_166_13 (sdM_52 hω) (ks_52 _) rfl (j := 82) rfl dX12_undo_127 ?_
      refine x_iload_n X dX12_undo_130 1 rfl rfl ?_
      obtain ⟨z23, hf⟩ := chk_some hf
      refine x_iald X (i := 82) (n := 5) (sdM_82 hω) (ks_82 _) z23 dX12_undo_131 ?_
      obtain ⟨z24, hf⟩ := chk_some hf
      refine x_iast X (i := 72) (n := 5) (sdM_72 hω) (ks_72 _) z24 dX12_undo_132 ?_
      obtain ⟨h25, eh25, hf⟩ := nm_some hf
      refine x_nmh eh25 ?_
      obtain ⟨v26, ev26, hf⟩ := nm_some hf
      refine x_iincN X (v := 1) ev26 [(1, .int v26), (0, .ref (q 52))] dX12_undo_133 1 rfl (by decide) (Nat.le_of_ble_eq_true rfl) rfl ?_
      refine x_goto X 68 dX12_undo_136 (by decide) ?_
      refine x_lv [1, 0] rfl ?_
      exact ih h25 _ hf
    · replace hf := (if_neg c10).symm.trans hf
      refine x_iconst X (v := 0) dX12_undo_139 (by decide) ?_
      refine x_istore_n X [(1, .int (0 : Int32)), (0, .ref (q 52))] dX12_undo_140 rfl (Nat.le_of_ble_eq_true rfl) rfl ?_
      refine x_lv [1, 0] rfl ?_
      exact k_X12_undo_141 hω X R _ h _ hf
set_option maxRecDepth 100000 in
set_option maxHeartbeats 4000000 in
theorem k_X12_undo {ω : XO} (hω : ω.2.2.2.1 = 0) {L : List Nat} {q : Nat → Nat} {h h' : hp}  {r : Int32} (hf : f_X12_undo h = some (h', r)) : XM ω yX12_undo cX12_undo 2 (some .int) rm_X12_undo L q h [.ref (q 52)] (some (.int r)) h' := by
  refine XM_intro [(0, .ref (q 52))] "SignalBlindModel" (by decide) rfl rfl (Nat.le_of_ble_eq_true rfl) (fun κ X R => ?_)
  unfold f_X12_undo at hf
  refine x_aload_n X dX12_undo_0 0 rfl rfl ?_
  refine x_geti X (i := 52) fl_X12_123_13 (sdM_52 hω) (ks_52 _) rfl dX12_undo_1 ?_
  refine x_if_ne X 10 dX12_undo_4 (by decide) (fun c1 => ?_) (fun c1 => ?_)
  · replace hf := (if_pos c1).symm.trans hf
    refine x_bipush X (v := -3) dX12_undo_7 (by decide) ?_
    exact x_retSI X R hf dX12_undo_9
  · replace hf := (if_neg c1).symm.trans hf
    refine x_aload_n X dX12_undo_10 0 rfl rfl ?_
    refine x_aload_n X dX12_undo_11 0 rfl rfl ?_
    refine x_geti X (i := 52) fl_X12_127_13 (sdM_52 hω) (ks_52 _) rfl dX12_undo_12 ?_
    refine x_puti X (i := 52) fl_X12_38_13 fw_13 (sdM_52 hω) (ks_52 _) rfl rfl rfl rfl dX12_undo_15 ?_
    obtain ⟨h2, eh2, hf⟩ := nm_some hf
    refine x_nmh eh2 ?_
    refine x_aload_n X dX12_undo_18 0 rfl rfl ?_
    refine x_aload_n X dX12_undo_19 0 rfl rfl ?_
    refine x_geti X (i := 52) fl_X12_130_13 (sdM_52 hω) (ks_52 _) rfl dX12_undo_20 ?_
    refine x_puti X (i := 52) fl_X12_7_13 fw_13 (sdM_52 hω) (ks_52 _) rfl rfl rfl rfl dX12_undo_23 ?_
    obtain ⟨h3, eh3, hf⟩ := nm_some hf
    refine x_nmh eh3 ?_
    refine x_aload_n X dX12_undo_26 0 rfl rfl ?_
    refine x_aload_n X dX12_undo_27 0 rfl rfl ?_
    refine x_geti X (i := 52) fl_X12_133_13 (sdM_52 hω) (ks_52 _) rfl dX12_undo_28 ?_
    refine x_puti X (i := 52) fl_X12_13_13 fw_13 (sdM_52 hω) (ks_52 _) rfl rfl rfl rfl dX12_undo_31 ?_
    obtain ⟨h4, eh4, hf⟩ := nm_some hf
    refine x_nmh eh4 ?_
    refine x_aload_n X dX12_undo_34 0 rfl rfl ?_
    refine x_aload_n X dX12_undo_35 0 rfl rfl ?_
    refine x_geti X (i := 52) fl_X12_136_13 (sdM_52 hω) (ks_52 _) rfl dX12_undo_36 ?_
    refine x_puti X (i := 52) fl_X12_16_13 fw_13 (sdM_52 hω) (ks_52 _) rfl rfl rfl rfl dX12_undo_39 ?_
    obtain ⟨h5, eh5, hf⟩ := nm_some hf
    refine x_nmh eh5 ?_
    refine x_aload_n X dX12_undo_42 0 rfl rfl ?_
    refine x_aload_n X dX12_undo_43 0 rfl rfl ?_
    refine x_geti X (i := 52) fl_X12_139_13 (sdM_52 hω) (ks_52 _) rfl dX12_undo_44 ?_
    refine x_puti X (i := 52) fl_X12_99_13 fw_13 (sdM_52 hω) (ks_52 _) rfl rfl rfl rfl dX12_undo_47 ?_
    obtain ⟨h6, eh6, hf⟩ := nm_some hf
    refine x_nmh eh6 ?_
    refine x_aload_n X dX12_undo_50 0 rfl rfl ?_
    refine x_aload_n X dX12_undo_51 0 rfl rfl ?_
    refine x_geti X (i := 52) fl_X12_142_13 (sdM_52 hω) (ks_52 _) rfl dX12_undo_52 ?_
    refine x_puti X (i := 52) fl_X12_108_13 fw_13 (sdM_52 hω) (ks_52 _) rfl rfl rfl rfl dX12_undo_55 ?_
    obtain ⟨h7, eh7, hf⟩ := nm_some hf
    refine x_nmh eh7 ?_
    refine x_aload_n X dX12_undo_58 0 rfl rfl ?_
    refine x_aload_n X dX12_undo_59 0 rfl rfl ?_
    refine x_geti X (i := 52) fl_X12_145_13 (sdM_52 hω) (ks_52 _) rfl dX12_undo_60 ?_
    refine x_puti X (i := 52) fl_X12_111_13 fw_13 (sdM_52 hω) (ks_52 _) rfl rfl rfl rfl dX12_undo_63 ?_
    obtain ⟨h8, eh8, hf⟩ := nm_some hf
    refine x_nmh eh8 ?_
    refine x_iconst X (v := 0) dX12_undo_66 (by decide) ?_
    refine x_istore_n X [(1, .int (0 : Int32)), (0, .ref (q 52))] dX12_undo_67 rfl (Nat.le_of_ble_eq_true rfl) rfl ?_
    refine x_lv [1, 0] rfl ?_
    exact k_X12_undo_68 hω X R _ h8 _ hf
theorem mt_X12_undo : MT yX12_undo cX12_undo 2 (some .int) "SignalBlindModel" 0 := ⟨(mT_7 22 rfl rfl), (mT_7 23 rfl rfl), (mT_1 10 rfl rfl), (mT_7 24 rfl rfl), by decide⟩

abbrev rm_X12_body : Room := { frames := 0, cells := 0, slots := 0, locals := 0 }
def f_X12_body_19 (h : hp) : Option (hp × Unit) := (nm (sI h 52 55 ((hI h 52 55) + (1 : Int32))) fun h4 =>
 (some (h4, ())))
def f_X12_body (h : hp) (p0 : Int32) : Option (hp × Unit) := (if (hI h 52 55) < (20 : Int32) then
 (chk (hI h 52 55) 20
 (nm (tI h 86 ((hI h 52 55)).toNatClampNeg p0) fun h3 =>
 (f_X12_body_19 h3)))
 else
 (f_X12_body_19 h))
set_option maxRecDepth 100000 in
set_option maxHeartbeats 4000000 in
theorem k_X12_body_19 {ω : XO} (hω : ω.2.2.2.1 = 0) {κ : XK} (X : XC ω rm_X12_body 2 κ cX12_body "SignalBlindModel") {L : List Nat} {q : Nat → Nat} {h' : hp} {r : Unit} (R : XRet ω rm_X12_body κ none L q h' none) : ∀ (h : hp), f_X12_body_19 h = some (h', r) → XG ω rm_X12_body 2 κ L q h 0 0 19 [(0, .ref (q 52))] [] := by
  intro h hf
  unfold f_X12_body_19 at hf
  refine x_aload_n X dX12_body_19 0 rfl rfl ?_
  refine x_dup X dX12_body_20 rfl ?_
  refine x_geti X (i := 52) fl_X12_178_13 (sdM_52 hω) (ks_52 _) rfl dX12_body_21 ?_
  refine x_iconst X (v := 1) dX12_body_24 (by decide) ?_
  refine x_iadd X dX12_body_25 ?_
  refine x_puti X (i := 52) fl_X12_178_13 fw_13 (sdM_52 hω) (ks_52 _) rfl rfl rfl rfl dX12_body_26 ?_
  obtain ⟨h4, eh4, hf⟩ := nm_some hf
  refine x_nmh eh4 ?_
  exact x_retV X R hf dX12_body_29
set_option maxRecDepth 100000 in
set_option maxHeartbeats 4000000 in
theorem k_X12_body {ω : XO} (hω : ω.2.2.2.1 = 0) {L : List Nat} {q : Nat → Nat} {h h' : hp} {p0 : Int32} {r : Unit} (hf : f_X12_body h p0 = some (h', r)) : XM ω yX12_body cX12_body 2 none rm_X12_body L q h [.ref (q 52), .int p0] none h' := by
  refine XM_intro [(0, .ref (q 52)), (1, .int p0)] "SignalBlindModel" (by decide) rfl rfl (Nat.le_of_ble_eq_true rfl) (fun κ X R => ?_)
  unfold f_X12_body at hf
  refine x_aload_n X dX12_body_0 0 rfl rfl ?_
  refine x_geti X (i := 52) fl_X12_178_13 (sdM_52 hω) (ks_52 _) rfl dX12_body_1 ?_
  refine x_bipush X (v := 20) dX12_body_4 (by decide) ?_
  refine x_icmp_ge X 19 dX12_body_6 (by decide) (fun c1 => ?_) (fun c1 => ?_)
  · replace hf := (if_pos c1).symm.trans hf
    refine x_aload_n X dX12_body_9 0 rfl rfl ?_
    refine x_getsj X (i := 52) 34 fl_X12_181_13 (sdM_52 hω) (ks_52 _) rfl (j := 86) rfl dX12_body_10 ?_
    refine x_aload_n X dX12_body_13 0 rfl rfl ?_
    refine x_geti X (i := 52) fl_X12_178_13 (sdM_52 hω) (ks_52 _) rfl dX12_body_14 ?_
    refine x_iload_n X dX12_body_17 1 rfl rfl ?_
    obtain ⟨z2, hf⟩ := chk_some hf
    refine x_iast X (i := 86) (n := 20) (sdM_86 hω) (ks_86 _) z2 dX12_body_18 ?_
    obtain ⟨h3, eh3, hf⟩ := nm_some hf
    refine x_nmh eh3 ?_
    refine x_lv [0] rfl ?_
    exact k_X12_body_19 hω X R h3 hf
  · replace hf := (if_neg c1).symm.trans hf
    refine x_lv [0] rfl ?_
    exact k_X12_body_19 hω X R h hf
theorem mt_X12_body : MT yX12_body cX12_body 2 none "SignalBlindModel" 1 := ⟨(mT_7 35 rfl rfl), (mTp (q := (yX12_body, 61)) (by decide +kernel) rfl), (mT_1 10 rfl rfl), (mT_7 36 rfl rfl), by decide⟩
theorem c_X12_333 {ω : XO} {rm : Room} {nL : Nat} {κ : XK} {cc : ByteArray} (X : XC ω rm nL κ cc "SignalBlindModel") (hω : ω.2.2.2.1 = 0) {L : List Nat} {q : Nat → Nat} {h h' : hp} {cells slots pc : Nat} {lv : List (Nat × Value)} {rest : List Value} {p0 : Int32} {r : Unit} (hf : f_X12_body h p0 = some (h', r)) (hR : rm_X12_body.frames + 1 ≤ rm.frames ∧ 8 + (2 + 11) + rm_X12_body.locals ≤ rm.locals) (hcs : cells ≤ rm.cells ∧ slots ≤ rm.slots) (hroom : (rest.map fun v => v.category).sum ≤ 8) (hd : decode cc pc = .ok (.invokevirtual 333, 3)) (kk : XG ω rm nL κ L q h' cells slots (pc + 3) lv (rest)) : XG ω rm nL κ L q h cells slots pc lv (.int p0 :: .ref (q 52) :: rest) := x_callV X [.int p0] rest (k_X12_body hω hf) mt_X12_body (mT_7 33 rfl rfl) hR ⟨rfl, rfl⟩ hcs (sdM_52 hω) (ks_52 _) (by decide) rfl rfl hroom hd kk

abbrev rm_X12_senderTilts : Room := { frames := 1, cells := 0, slots := 0, locals := 21 }
def f_X12_senderTilts (h : hp) (p0 : Int32) (p1 : Int32) : Option (hp × Int32) := (bnd (f_X12_body h (10 : Int32)) fun h1 _ =>
 (some (h1, (p1 + p0))))
set_option maxRecDepth 100000 in
set_option maxHeartbeats 4000000 in
theorem k_X12_senderTilts {ω : XO} (hω : ω.2.2.2.1 = 0) {L : List Nat} {q : Nat → Nat} {h h' : hp} {p0 : Int32} {p1 : Int32} {r : Int32} (hf : f_X12_senderTilts h p0 p1 = some (h', r)) : XM ω yX12_senderTilts cX12_senderTilts 3 (some .int) rm_X12_senderTilts L q h [.ref (q 52), .int p0, .int p1] (some (.int r)) h' := by
  refine XM_intro [(0, .ref (q 52)), (1, .int p0), (2, .int p1)] "SignalBlindModel" (by decide) rfl rfl (Nat.le_of_ble_eq_true rfl) (fun κ X R => ?_)
  unfold f_X12_senderTilts at hf
  refine x_aload_n X dX12_senderTilts_0 0 rfl rfl ?_
  refine x_bipush X (v := 10) dX12_senderTilts_1 (by decide) ?_
  obtain ⟨h1, uh1, g2, hf⟩ := bnd_some hf
  refine c_X12_333 X hω g2 (hR := ⟨Nat.le_of_ble_eq_true rfl, Nat.le_of_ble_eq_true rfl⟩) ⟨Nat.zero_le _, Nat.zero_le _⟩ (Nat.le_of_ble_eq_true rfl) dX12_senderTilts_3 ?_
  refine x_iload_n X dX12_senderTilts_6 2 rfl rfl ?_
  refine x_iload_n X dX12_senderTilts_7 1 rfl rfl ?_
  refine x_iadd X dX12_senderTilts_8 ?_
  exact x_retSI X R hf dX12_senderTilts_9
theorem mt_X12_senderTilts : MT yX12_senderTilts cX12_senderTilts 3 (some .int) "SignalBlindModel" 2 := ⟨(mT_7 39 rfl rfl), (mTp (q := (yX12_senderTilts, 61)) (by decide +kernel) rfl), (mT_1 10 rfl rfl), (mT_7 40 rfl rfl), by decide⟩
theorem c_X12_336 {ω : XO} {rm : Room} {nL : Nat} {κ : XK} {cc : ByteArray} (X : XC ω rm nL κ cc "SignalBlindModel") (hω : ω.2.2.2.1 = 0) {L : List Nat} {q : Nat → Nat} {h h' : hp} {cells slots pc : Nat} {lv : List (Nat × Value)} {rest : List Value} {p0 : Int32} {p1 : Int32} {r : Int32} (hf : f_X12_senderTilts h p0 p1 = some (h', r)) (hR : rm_X12_senderTilts.frames + 1 ≤ rm.frames ∧ 8 + (3 + 11) + rm_X12_senderTilts.locals ≤ rm.locals) (hcs : cells ≤ rm.cells ∧ slots ≤ rm.slots) (hroom : (rest.map fun v => v.category).sum ≤ 8) (hd : decode cc pc = .ok (.invokevirtual 336, 3)) (kk : XG ω rm nL κ L q h' cells slots (pc + 3) lv (.int r :: rest)) : XG ω rm nL κ L q h cells slots pc lv (.int p1 :: .int p0 :: .ref (q 52) :: rest) := x_callV X [.int p0, .int p1] rest (k_X12_senderTilts hω hf) mt_X12_senderTilts (mT_7 37 rfl rfl) hR ⟨rfl, rfl⟩ hcs (sdM_52 hω) (ks_52 _) (by decide) rfl rfl hroom hd kk

abbrev rm_X12_tiltsAct : Room := { frames := 2, cells := 0, slots := 0, locals := 43 }
def f_X12_tiltsAct (h : hp) (p0 : Int32) (p1 : Int32) : Option (hp × Int32) := (chk p0 5
 (if (aI h 54 (p0).toNatClampNeg) = (2 : Int32) then
 (bnd (f_X12_body h (30 : Int32)) fun h3 _ =>
 (bnd (f_X12_senderTilts h3 p0 (p1 * (3 : Int32))) fun h5 r6 =>
 (some (h5, r6))))
 else
 (if (aI h 54 (p0).toNatClampNeg) = (3 : Int32) then
 (bnd (f_X12_senderTilts h p0 p1) fun h9 r10 =>
 (some (h9, r10)))
 else
 (if (aI h 54 (p0).toNatClampNeg) = (4 : Int32) then
 (bnd (f_X12_body h (50 : Int32)) fun h13 _ =>
 (bnd (f_X12_senderTilts h13 p0 p1) fun h15 r16 =>
 (some (h15, (-r16)))))
 else
 (if (aI h 54 (p0).toNatClampNeg) = (5 : Int32) then
 (bnd (f_X12_body h (30 : Int32)) fun h19 _ =>
 (bnd (f_X12_senderTilts h19 p0 (p1 * (3 : Int32))) fun h21 r22 =>
 (some (h21, r22))))
 else
 (if (aI h 54 (p0).toNatClampNeg) = (6 : Int32) then
 (bnd (f_X12_body h (71 : Int32)) fun h25 _ =>
 (bnd (f_X12_senderTilts h25 p0 p1) fun h27 r28 =>
 (chk p0 5
 (some (h27, (r28 ^^^ (aI h27 55 (p0).toNatClampNeg)))))))
 else
 (bnd (f_X12_senderTilts h p0 p1) fun h31 r32 =>
 (some (h31, r32)))))))))
set_option maxRecDepth 100000 in
set_option maxHeartbeats 4000000 in
theorem k_X12_tiltsAct {ω : XO} (hω : ω.2.2.2.1 = 0) {L : List Nat} {q : Nat → Nat} {h h' : hp} {p0 : Int32} {p1 : Int32} {r : Int32} (hf : f_X12_tiltsAct h p0 p1 = some (h', r)) : XM ω yX12_tiltsAct cX12_tiltsAct 3 (some .int) rm_X12_tiltsAct L q h [.ref (q 52), .int p0, .int p1] (some (.int r)) h' := by
  refine XM_intro [(0, .ref (q 52)), (1, .int p0), (2, .int p1)] "SignalBlindModel" (by decide) rfl rfl (Nat.le_of_ble_eq_true rfl) (fun κ X R => ?_)
  unfold f_X12_tiltsAct at hf
  refine x_aload_n X dX12_tiltsAct_0 0 rfl rfl ?_
  refine x_getsj X (i := 52) 2 fl_X12_23_13 (sdM_52 hω) (ks_52 _) rfl (j := 54) rfl dX12_tiltsAct_1 ?_
  refine x_iload_n X dX12_tiltsAct_4 1 rfl rfl ?_
  obtain ⟨z1, hf⟩ := chk_some hf
  refine x_iald X (i := 54) (n := 5) (sdM_54 hω) (ks_54 _) z1 dX12_tiltsAct_5 ?_
  by_cases s2 : (aI h 54 (p0).toNatClampNeg) = (2 : Int32)
  · replace hf := (if_pos s2).symm.trans hf
    refine x_tswI X (off := 34) 40 dX12_tiltsAct_6 s2 (by decide) (by decide) (by decide) (by decide) ?_
    refine x_aload_n X dX12_tiltsAct_40 0 rfl rfl ?_
    refine x_bipush X (v := 30) dX12_tiltsAct_41 (by decide) ?_
    obtain ⟨h3, uh3, g4, hf⟩ := bnd_some hf
    refine c_X12_333 X hω g4 (hR := ⟨Nat.le_of_ble_eq_true rfl, Nat.le_of_ble_eq_true rfl⟩) ⟨Nat.zero_le _, Nat.zero_le _⟩ (Nat.le_of_ble_eq_true rfl) dX12_tiltsAct_43 ?_
    refine x_aload_n X dX12_tiltsAct_46 0 rfl rfl ?_
    refine x_iload_n X dX12_tiltsAct_47 1 rfl rfl ?_
    refine x_iload_n X dX12_tiltsAct_48 2 rfl rfl ?_
    refine x_iconst X (v := 3) dX12_tiltsAct_49 (by decide) ?_
    refine x_imul X dX12_tiltsAct_50 ?_
    obtain ⟨h5, r6, g7, hf⟩ := bnd_some hf
    refine c_X12_336 X hω g7 (hR := ⟨Nat.le_of_ble_eq_true rfl, Nat.le_of_ble_eq_true rfl⟩) ⟨Nat.zero_le _, Nat.zero_le _⟩ (Nat.le_of_ble_eq_true rfl) dX12_tiltsAct_51 ?_
    exact x_retSI X R hf dX12_tiltsAct_54
  · replace hf := (if_neg s2).symm.trans hf
    by_cases s8 : (aI h 54 (p0).toNatClampNeg) = (3 : Int32)
    · replace hf := (if_pos s8).symm.trans hf
      refine x_tswI X (off := 83) 89 dX12_tiltsAct_6 s8 (by decide) (by decide) (by decide) (by decide) ?_
      refine x_aload_n X dX12_tiltsAct_89 0 rfl rfl ?_
      refine x_iload_n X dX12_tiltsAct_90 1 rfl rfl ?_
      refine x_iload_n X dX12_tiltsAct_91 2 rfl rfl ?_
      obtain ⟨h9, r10, g11, hf⟩ := bnd_some hf
      refine c_X12_336 X hω g11 (hR := ⟨Nat.le_of_ble_eq_true rfl, Nat.le_of_ble_eq_true rfl⟩) ⟨Nat.zero_le _, Nat.zero_le _⟩ (Nat.le_of_ble_eq_true rfl) dX12_tiltsAct_92 ?_
      exact x_retSI X R hf dX12_tiltsAct_95
    · replace hf := (if_neg s8).symm.trans hf
      by_cases s12 : (aI h 54 (p0).toNatClampNeg) = (4 : Int32)
      · replace hf := (if_pos s12).symm.trans hf
        refine x_tswI X (off := 49) 55 dX12_tiltsAct_6 s12 (by decide) (by decide) (by decide) (by decide) ?_
        refine x_aload_n X dX12_tiltsAct_55 0 rfl rfl ?_
        refine x_bipush X (v := 50) dX12_tiltsAct_56 (by decide) ?_
        obtain ⟨h13, uh13, g14, hf⟩ := bnd_some hf
        refine c_X12_333 X hω g14 (hR := ⟨Nat.le_of_ble_eq_true rfl, Nat.le_of_ble_eq_true rfl⟩) ⟨Nat.zero_le _, Nat.zero_le _⟩ (Nat.le_of_ble_eq_true rfl) dX12_tiltsAct_58 ?_
        refine x_aload_n X dX12_tiltsAct_61 0 rfl rfl ?_
        refine x_iload_n X dX12_tiltsAct_62 1 rfl rfl ?_
        refine x_iload_n X dX12_tiltsAct_63 2 rfl rfl ?_
        obtain ⟨h15, r16, g17, hf⟩ := bnd_some hf
        refine c_X12_336 X hω g17 (hR := ⟨Nat.le_of_ble_eq_true rfl, Nat.le_of_ble_eq_true rfl⟩) ⟨Nat.zero_le _, Nat.zero_le _⟩ (Nat.le_of_ble_eq_true rfl) dX12_tiltsAct_64 ?_
        refine x_ineg X dX12_tiltsAct_67 ?_
        exact x_retSI X R hf dX12_tiltsAct_68
      · replace hf := (if_neg s12).symm.trans hf
        by_cases s18 : (aI h 54 (p0).toNatClampNeg) = (5 : Int32)
        · replace hf := (if_pos s18).symm.trans hf
          refine x_tswI X (off := 34) 40 dX12_tiltsAct_6 s18 (by decide) (by decide) (by decide) (by decide) ?_
          refine x_aload_n X dX12_tiltsAct_40 0 rfl rfl ?_
          refine x_bipush X (v := 30) dX12_tiltsAct_41 (by decide) ?_
          obtain ⟨h19, uh19, g20, hf⟩ := bnd_some hf
          refine c_X12_333 X hω g20 (hR := ⟨Nat.le_of_ble_eq_true rfl, Nat.le_of_ble_eq_true rfl⟩) ⟨Nat.zero_le _, Nat.zero_le _⟩ (Nat.le_of_ble_eq_true rfl) dX12_tiltsAct_43 ?_
          refine x_aload_n X dX12_tiltsAct_46 0 rfl rfl ?_
          refine x_iload_n X dX12_tiltsAct_47 1 rfl rfl ?_
          refine x_iload_n X dX12_tiltsAct_48 2 rfl rfl ?_
          refine x_iconst X (v := 3) dX12_tiltsAct_49 (by decide) ?_
          refine x_imul X dX12_tiltsAct_50 ?_
          obtain ⟨h21, r22, g23, hf⟩ := bnd_some hf
          refine c_X12_336 X hω g23 (hR := ⟨Nat.le_of_ble_eq_true rfl, Nat.le_of_ble_eq_true rfl⟩) ⟨Nat.zero_le _, Nat.zero_le _⟩ (Nat.le_of_ble_eq_true rfl) dX12_tiltsAct_51 ?_
          exact x_retSI X R hf dX12_tiltsAct_54
        · replace hf := (if_neg s18).symm.trans hf
          by_cases s24 : (aI h 54 (p0).toNatClampNeg) = (6 : Int32)
          · replace hf := (if_pos s24).symm.trans hf
            refine x_tswI X (off := 63) 69 dX12_tiltsAct_6 s24 (by decide) (by decide) (by decide) (by decide) ?_
            refine x_aload_n X dX12_tiltsAct_69 0 rfl rfl ?_
            refine x_bipush X (v := 71) dX12_tiltsAct_70 (by decide) ?_
            obtain ⟨h25, uh25, g26, hf⟩ := bnd_some hf
            refine c_X12_333 X hω g26 (hR := ⟨Nat.le_of_ble_eq_true rfl, Nat.le_of_ble_eq_true rfl⟩) ⟨Nat.zero_le _, Nat.zero_le _⟩ (Nat.le_of_ble_eq_true rfl) dX12_tiltsAct_72 ?_
            refine x_aload_n X dX12_tiltsAct_75 0 rfl rfl ?_
            refine x_iload_n X dX12_tiltsAct_76 1 rfl rfl ?_
            refine x_iload_n X dX12_tiltsAct_77 2 rfl rfl ?_
            obtain ⟨h27, r28, g29, hf⟩ := bnd_some hf
            refine c_X12_336 X hω g29 (hR := ⟨Nat.le_of_ble_eq_true rfl, Nat.le_of_ble_eq_true rfl⟩) ⟨Nat.zero_le _, Nat.zero_le _⟩ (Nat.le_of_ble_eq_true rfl) dX12_tiltsAct_78 ?_
            refine x_aload_n X dX12_tiltsAct_81 0 rfl rfl ?_
            refine x_getsj X (i := 52) 3 fl_X12_26_13 (sdM_52 hω) (ks_52 _) rfl (j := 55) rfl dX12_tiltsAct_82 ?_
            refine x_iload_n X dX12_tiltsAct_85 1 rfl rfl ?_
            obtain ⟨z30, hf⟩ := chk_some hf
            refine x_iald X (i := 55) (n := 5) (sdM_55 hω) (ks_55 _) z30 dX12_tiltsAct_86 ?_
            refine x_ixor X dX12_tiltsAct_87 ?_
            exact x_retSI X R hf dX12_tiltsAct_88
          · replace hf := (if_neg s24).symm.trans hf
            refine x_tswO X 89 dX12_tiltsAct_6 (by have := lv_neT s2 (a := 2) (by decide); have := lv_neT s8 (a := 3) (by decide); have := lv_neT s12 (a := 4) (by decide); have := lv_neT s18 (a := 5) (by decide); have := lv_neT s24 (a := 6) (by decide); omega) (by decide) ?_
            refine x_aload_n X dX12_tiltsAct_89 0 rfl rfl ?_
            refine x_iload_n X dX12_tiltsAct_90 1 rfl rfl ?_
            refine x_iload_n X dX12_tiltsAct_91 2 rfl rfl ?_
            obtain ⟨h31, r32, g33, hf⟩ := bnd_some hf
            refine c_X12_336 X hω g33 (hR := ⟨Nat.le_of_ble_eq_true rfl, Nat.le_of_ble_eq_true rfl⟩) ⟨Nat.zero_le _, Nat.zero_le _⟩ (Nat.le_of_ble_eq_true rfl) dX12_tiltsAct_92 ?_
            exact x_retSI X R hf dX12_tiltsAct_95
theorem mt_X12_tiltsAct : MT yX12_tiltsAct cX12_tiltsAct 3 (some .int) "SignalBlindModel" 2 := ⟨(mT_7 31 rfl rfl), (mTp (q := (yX12_tiltsAct, 61)) (by decide +kernel) rfl), (mT_1 10 rfl rfl), (mT_7 32 rfl rfl), by decide⟩
theorem c_X12_339 {ω : XO} {rm : Room} {nL : Nat} {κ : XK} {cc : ByteArray} (X : XC ω rm nL κ cc "SignalBlindModel") (hω : ω.2.2.2.1 = 0) {L : List Nat} {q : Nat → Nat} {h h' : hp} {cells slots pc : Nat} {lv : List (Nat × Value)} {rest : List Value} {p0 : Int32} {p1 : Int32} {r : Int32} (hf : f_X12_tiltsAct h p0 p1 = some (h', r)) (hR : rm_X12_tiltsAct.frames + 1 ≤ rm.frames ∧ 8 + (3 + 11) + rm_X12_tiltsAct.locals ≤ rm.locals) (hcs : cells ≤ rm.cells ∧ slots ≤ rm.slots) (hroom : (rest.map fun v => v.category).sum ≤ 8) (hd : decode cc pc = .ok (.invokevirtual 339, 3)) (kk : XG ω rm nL κ L q h' cells slots (pc + 3) lv (.int r :: rest)) : XG ω rm nL κ L q h cells slots pc lv (.int p1 :: .int p0 :: .ref (q 52) :: rest) := x_callV X [.int p0, .int p1] rest (k_X12_tiltsAct hω hf) mt_X12_tiltsAct (mT_7 29 rfl rfl) hR ⟨rfl, rfl⟩ hcs (sdM_52 hω) (ks_52 _) (by decide) rfl rfl hroom hd kk

abbrev rm_X12_senderSends : Room := { frames := 3, cells := 0, slots := 0, locals := 65 }
def f_X12_senderSends (h : hp) (p0 : Int32) (p1 : Int32) : Option (hp × Int32) := (bnd (f_X12_body h (11 : Int32)) fun h1 _ =>
 (bnd (f_X12_tiltsAct h1 p0 p1) fun h3 r4 =>
 (chk p0 5
 (some (h3, (r4 - (aI h3 55 (p0).toNatClampNeg)))))))
set_option maxRecDepth 100000 in
set_option maxHeartbeats 4000000 in
theorem k_X12_senderSends {ω : XO} (hω : ω.2.2.2.1 = 0) {L : List Nat} {q : Nat → Nat} {h h' : hp} {p0 : Int32} {p1 : Int32} {r : Int32} (hf : f_X12_senderSends h p0 p1 = some (h', r)) : XM ω yX12_senderSends cX12_senderSends 3 (some .int) rm_X12_senderSends L q h [.ref (q 52), .int p0, .int p1] (some (.int r)) h' := by
  refine XM_intro [(0, .ref (q 52)), (1, .int p0), (2, .int p1)] "SignalBlindModel" (by decide) rfl rfl (Nat.le_of_ble_eq_true rfl) (fun κ X R => ?_)
  unfold f_X12_senderSends at hf
  refine x_aload_n X dX12_senderSends_0 0 rfl rfl ?_
  refine x_bipush X (v := 11) dX12_senderSends_1 (by decide) ?_
  obtain ⟨h1, uh1, g2, hf⟩ := bnd_some hf
  refine c_X12_333 X hω g2 (hR := ⟨Nat.le_of_ble_eq_true rfl, Nat.le_of_ble_eq_true rfl⟩) ⟨Nat.zero_le _, Nat.zero_le _⟩ (Nat.le_of_ble_eq_true rfl) dX12_senderSends_3 ?_
  refine x_aload_n X dX12_senderSends_6 0 rfl rfl ?_
  refine x_iload_n X dX12_senderSends_7 1 rfl rfl ?_
  refine x_iload_n X dX12_senderSends_8 2 rfl rfl ?_
  obtain ⟨h3, r4, g5, hf⟩ := bnd_some hf
  refine c_X12_339 X hω g5 (hR := ⟨Nat.le_of_ble_eq_true rfl, Nat.le_of_ble_eq_true rfl⟩) ⟨Nat.zero_le _, Nat.zero_le _⟩ (Nat.le_of_ble_eq_true rfl) dX12_senderSends_9 ?_
  refine x_aload_n X dX12_senderSends_12 0 rfl rfl ?_
  refine x_getsj X (i := 52) 3 fl_X12_26_13 (sdM_52 hω) (ks_52 _) rfl (j := 55) rfl dX12_senderSends_13 ?_
  refine x_iload_n X dX12_senderSends_16 1 rfl rfl ?_
  obtain ⟨z6, hf⟩ := chk_some hf
  refine x_iald X (i := 55) (n := 5) (sdM_55 hω) (ks_55 _) z6 dX12_senderSends_17 ?_
  refine x_isub X dX12_senderSends_18 ?_
  exact x_retSI X R hf dX12_senderSends_19
theorem mt_X12_senderSends : MT yX12_senderSends cX12_senderSends 3 (some .int) "SignalBlindModel" 2 := ⟨(mT_7 51 rfl rfl), (mTp (q := (yX12_senderSends, 61)) (by decide +kernel) rfl), (mT_1 10 rfl rfl), (mT_7 52 rfl rfl), by decide⟩
theorem c_X12_342 {ω : XO} {rm : Room} {nL : Nat} {κ : XK} {cc : ByteArray} (X : XC ω rm nL κ cc "SignalBlindModel") (hω : ω.2.2.2.1 = 0) {L : List Nat} {q : Nat → Nat} {h h' : hp} {cells slots pc : Nat} {lv : List (Nat × Value)} {rest : List Value} {p0 : Int32} {p1 : Int32} {r : Int32} (hf : f_X12_senderSends h p0 p1 = some (h', r)) (hR : rm_X12_senderSends.frames + 1 ≤ rm.frames ∧ 8 + (3 + 11) + rm_X12_senderSends.locals ≤ rm.locals) (hcs : cells ≤ rm.cells ∧ slots ≤ rm.slots) (hroom : (rest.map fun v => v.category).sum ≤ 8) (hd : decode cc pc = .ok (.invokevirtual 342, 3)) (kk : XG ω rm nL κ L q h' cells slots (pc + 3) lv (.int r :: rest)) : XG ω rm nL κ L q h cells slots pc lv (.int p1 :: .int p0 :: .ref (q 52) :: rest) := x_callV X [.int p0, .int p1] rest (k_X12_senderSends hω hf) mt_X12_senderSends (mT_7 49 rfl rfl) hR ⟨rfl, rfl⟩ hcs (sdM_52 hω) (ks_52 _) (by decide) rfl rfl hroom hd kk

abbrev rm_X12_tiltedSends : Room := { frames := 4, cells := 0, slots := 0, locals := 87 }
def f_X12_tiltedSends (h : hp) (p0 : Int32) (p1 : Int32) : Option (hp × Int32) := (bnd (f_X12_body h (20 : Int32)) fun h1 _ =>
 (bnd (f_X12_senderSends h1 p0 p1) fun h3 r4 =>
 (some (h3, (r4 ^^^ (6 : Int32))))))
set_option maxRecDepth 100000 in
set_option maxHeartbeats 4000000 in
theorem k_X12_tiltedSends {ω : XO} (hω : ω.2.2.2.1 = 0) {L : List Nat} {q : Nat → Nat} {h h' : hp} {p0 : Int32} {p1 : Int32} {r : Int32} (hf : f_X12_tiltedSends h p0 p1 = some (h', r)) : XM ω yX12_tiltedSends cX12_tiltedSends 3 (some .int) rm_X12_tiltedSends L q h [.ref (q 52), .int p0, .int p1] (some (.int r)) h' := by
  refine XM_intro [(0, .ref (q 52)), (1, .int p0), (2, .int p1)] "SignalBlindModel" (by decide) rfl rfl (Nat.le_of_ble_eq_true rfl) (fun κ X R => ?_)
  unfold f_X12_tiltedSends at hf
  refine x_aload_n X dX12_tiltedSends_0 0 rfl rfl ?_
  refine x_bipush X (v := 20) dX12_tiltedSends_1 (by decide) ?_
  obtain ⟨h1, uh1, g2, hf⟩ := bnd_some hf
  refine c_X12_333 X hω g2 (hR := ⟨Nat.le_of_ble_eq_true rfl, Nat.le_of_ble_eq_true rfl⟩) ⟨Nat.zero_le _, Nat.zero_le _⟩ (Nat.le_of_ble_eq_true rfl) dX12_tiltedSends_3 ?_
  refine x_aload_n X dX12_tiltedSends_6 0 rfl rfl ?_
  refine x_iload_n X dX12_tiltedSends_7 1 rfl rfl ?_
  refine x_iload_n X dX12_tiltedSends_8 2 rfl rfl ?_
  obtain ⟨h3, r4, g5, hf⟩ := bnd_some hf
  refine c_X12_342 X hω g5 (hR := ⟨Nat.le_of_ble_eq_true rfl, Nat.le_of_ble_eq_true rfl⟩) ⟨Nat.zero_le _, Nat.zero_le _⟩ (Nat.le_of_ble_eq_true rfl) dX12_tiltedSends_9 ?_
  refine x_bipush X (v := 6) dX12_tiltedSends_12 (by decide) ?_
  refine x_ixor X dX12_tiltedSends_14 ?_
  exact x_retSI X R hf dX12_tiltedSends_15
theorem mt_X12_tiltedSends : MT yX12_tiltedSends cX12_tiltedSends 3 (some .int) "SignalBlindModel" 2 := ⟨(mT_7 47 rfl rfl), (mTp (q := (yX12_tiltedSends, 61)) (by decide +kernel) rfl), (mT_1 10 rfl rfl), (mT_7 48 rfl rfl), by decide⟩
theorem c_X12_345 {ω : XO} {rm : Room} {nL : Nat} {κ : XK} {cc : ByteArray} (X : XC ω rm nL κ cc "SignalBlindModel") (hω : ω.2.2.2.1 = 0) {L : List Nat} {q : Nat → Nat} {h h' : hp} {cells slots pc : Nat} {lv : List (Nat × Value)} {rest : List Value} {p0 : Int32} {p1 : Int32} {r : Int32} (hf : f_X12_tiltedSends h p0 p1 = some (h', r)) (hR : rm_X12_tiltedSends.frames + 1 ≤ rm.frames ∧ 8 + (3 + 11) + rm_X12_tiltedSends.locals ≤ rm.locals) (hcs : cells ≤ rm.cells ∧ slots ≤ rm.slots) (hroom : (rest.map fun v => v.category).sum ≤ 8) (hd : decode cc pc = .ok (.invokevirtual 345, 3)) (kk : XG ω rm nL κ L q h' cells slots (pc + 3) lv (.int r :: rest)) : XG ω rm nL κ L q h cells slots pc lv (.int p1 :: .int p0 :: .ref (q 52) :: rest) := x_callV X [.int p0, .int p1] rest (k_X12_tiltedSends hω hf) mt_X12_tiltedSends (mT_7 45 rfl rfl) hR ⟨rfl, rfl⟩ hcs (sdM_52 hω) (ks_52 _) (by decide) rfl rfl hroom hd kk

abbrev rm_X12_sendsAct : Room := { frames := 5, cells := 0, slots := 0, locals := 109 }
def f_X12_sendsAct (h : hp) (p0 : Int32) (p1 : Int32) : Option (hp × Int32) := (chk p0 5
 (if (aI h 54 (p0).toNatClampNeg) = (1 : Int32) then
 (bnd (f_X12_tiltedSends h p0 p1) fun h3 r4 =>
 (some (h3, r4)))
 else
 (if (aI h 54 (p0).toNatClampNeg) = (4 : Int32) then
 (bnd (f_X12_body h (51 : Int32)) fun h7 _ =>
 (bnd (f_X12_tiltedSends h7 p0 (p1 + (1 : Int32))) fun h9 r10 =>
 (some (h9, r10))))
 else
 (if (aI h 54 (p0).toNatClampNeg) = (6 : Int32) then
 (bnd (f_X12_body h (70 : Int32)) fun h13 _ =>
 (bnd (f_X12_senderSends h13 p0 p1) fun h15 r16 =>
 (bnd (f_X12_senderTilts h15 p0 (2 : Int32)) fun h18 r19 =>
 (some (h18, (r16 + r19))))))
 else
 (bnd (f_X12_senderSends h p0 p1) fun h21 r22 =>
 (some (h21, r22)))))))
set_option maxRecDepth 100000 in
set_option maxHeartbeats 4000000 in
theorem k_X12_sendsAct {ω : XO} (hω : ω.2.2.2.1 = 0) {L : List Nat} {q : Nat → Nat} {h h' : hp} {p0 : Int32} {p1 : Int32} {r : Int32} (hf : f_X12_sendsAct h p0 p1 = some (h', r)) : XM ω yX12_sendsAct cX12_sendsAct 4 (some .int) rm_X12_sendsAct L q h [.ref (q 52), .int p0, .int p1] (some (.int r)) h' := by
  refine XM_intro [(0, .ref (q 52)), (1, .int p0), (2, .int p1)] "SignalBlindModel" (by decide) rfl rfl (Nat.le_of_ble_eq_true rfl) (fun κ X R => ?_)
  unfold f_X12_sendsAct at hf
  refine x_aload_n X dX12_sendsAct_0 0 rfl rfl ?_
  refine x_getsj X (i := 52) 2 fl_X12_23_13 (sdM_52 hω) (ks_52 _) rfl (j := 54) rfl dX12_sendsAct_1 ?_
  refine x_iload_n X dX12_sendsAct_4 1 rfl rfl ?_
  obtain ⟨z1, hf⟩ := chk_some hf
  refine x_iald X (i := 54) (n := 5) (sdM_54 hω) (ks_54 _) z1 dX12_sendsAct_5 ?_
  by_cases s2 : (aI h 54 (p0).toNatClampNeg) = (1 : Int32)
  · replace hf := (if_pos s2).symm.trans hf
    refine x_lsw X (off := 34) 40 dX12_sendsAct_6 (by decide) (by rw [s2]; decide) (by decide) ?_
    refine x_aload_n X dX12_sendsAct_40 0 rfl rfl ?_
    refine x_iload_n X dX12_sendsAct_41 1 rfl rfl ?_
    refine x_iload_n X dX12_sendsAct_42 2 rfl rfl ?_
    obtain ⟨h3, r4, g5, hf⟩ := bnd_some hf
    refine c_X12_345 X hω g5 (hR := ⟨Nat.le_of_ble_eq_true rfl, Nat.le_of_ble_eq_true rfl⟩) ⟨Nat.zero_le _, Nat.zero_le _⟩ (Nat.le_of_ble_eq_true rfl) dX12_sendsAct_43 ?_
    exact x_retSI X R hf dX12_sendsAct_46
  · replace hf := (if_neg s2).symm.trans hf
    by_cases s6 : (aI h 54 (p0).toNatClampNeg) = (4 : Int32)
    · replace hf := (if_pos s6).symm.trans hf
      refine x_lsw X (off := 41) 47 dX12_sendsAct_6 (by decide) (by rw [s6]; decide) (by decide) ?_
      refine x_aload_n X dX12_sendsAct_47 0 rfl rfl ?_
      refine x_bipush X (v := 51) dX12_sendsAct_48 (by decide) ?_
      obtain ⟨h7, uh7, g8, hf⟩ := bnd_some hf
      refine c_X12_333 X hω g8 (hR := ⟨Nat.le_of_ble_eq_true rfl, Nat.le_of_ble_eq_true rfl⟩) ⟨Nat.zero_le _, Nat.zero_le _⟩ (Nat.le_of_ble_eq_true rfl) dX12_sendsAct_50 ?_
      refine x_aload_n X dX12_sendsAct_53 0 rfl rfl ?_
      refine x_iload_n X dX12_sendsAct_54 1 rfl rfl ?_
      refine x_iload_n X dX12_sendsAct_55 2 rfl rfl ?_
      refine x_iconst X (v := 1) dX12_sendsAct_56 (by decide) ?_
      refine x_iadd X dX12_sendsAct_57 ?_
      obtain ⟨h9, r10, g11, hf⟩ := bnd_some hf
      refine c_X12_345 X hω g11 (hR := ⟨Nat.le_of_ble_eq_true rfl, Nat.le_of_ble_eq_true rfl⟩) ⟨Nat.zero_le _, Nat.zero_le _⟩ (Nat.le_of_ble_eq_true rfl) dX12_sendsAct_58 ?_
      exact x_retSI X R hf dX12_sendsAct_61
    · replace hf := (if_neg s6).symm.trans hf
      by_cases s12 : (aI h 54 (p0).toNatClampNeg) = (6 : Int32)
      · replace hf := (if_pos s12).symm.trans hf
        refine x_lsw X (off := 56) 62 dX12_sendsAct_6 (by decide) (by rw [s12]; decide) (by decide) ?_
        refine x_aload_n X dX12_sendsAct_62 0 rfl rfl ?_
        refine x_bipush X (v := 70) dX12_sendsAct_63 (by decide) ?_
        obtain ⟨h13, uh13, g14, hf⟩ := bnd_some hf
        refine c_X12_333 X hω g14 (hR := ⟨Nat.le_of_ble_eq_true rfl, Nat.le_of_ble_eq_true rfl⟩) ⟨Nat.zero_le _, Nat.zero_le _⟩ (Nat.le_of_ble_eq_true rfl) dX12_sendsAct_65 ?_
        refine x_aload_n X dX12_sendsAct_68 0 rfl rfl ?_
        refine x_iload_n X dX12_sendsAct_69 1 rfl rfl ?_
        refine x_iload_n X dX12_sendsAct_70 2 rfl rfl ?_
        obtain ⟨h15, r16, g17, hf⟩ := bnd_some hf
        refine c_X12_342 X hω g17 (hR := ⟨Nat.le_of_ble_eq_true rfl, Nat.le_of_ble_eq_true rfl⟩) ⟨Nat.zero_le _, Nat.zero_le _⟩ (Nat.le_of_ble_eq_true rfl) dX12_sendsAct_71 ?_
        refine x_istore_n X [(3, .int r16), (0, .ref (q 52)), (1, .int p0), (2, .int p1)] dX12_sendsAct_74 rfl (Nat.le_of_ble_eq_true rfl) rfl ?_
        refine x_iload_n X dX12_sendsAct_75 0 rfl rfl ?_
        refine x_aload_n X dX12_sendsAct_76 1 rfl rfl ?_
        refine x_iload_n X dX12_sendsAct_77 2 rfl rfl ?_
        refine x_iconst X (v := 2) dX12_sendsAct_78 (by decide) ?_
        obtain ⟨h18, r19, g20, hf⟩ := bnd_some hf
        refine c_X12_336 X hω g20 (hR := ⟨Nat.le_of_ble_eq_true rfl, Nat.le_of_ble_eq_true rfl⟩) ⟨Nat.zero_le _, Nat.zero_le _⟩ (Nat.le_of_ble_eq_true rfl) dX12_sendsAct_79 ?_
        refine x_iadd X dX12_sendsAct_82 ?_
        exact x_retSI X R hf dX12_sendsAct_83
      · replace hf := (if_neg s12).symm.trans hf
        refine x_lsw X (off := 78) 84 dX12_sendsAct_6 (by decide) ((lv_osw s2 (by decide)).trans ((lv_osw s6 (by decide)).trans ((lv_osw s12 (by decide)).trans rfl))) (by decide) ?_
        refine x_aload_n X dX12_sendsAct_84 0 rfl rfl ?_
        refine x_iload_n X dX12_sendsAct_85 1 rfl rfl ?_
        refine x_iload_n X dX12_sendsAct_86 2 rfl rfl ?_
        obtain ⟨h21, r22, g23, hf⟩ := bnd_some hf
        refine c_X12_342 X hω g23 (hR := ⟨Nat.le_of_ble_eq_true rfl, Nat.le_of_ble_eq_true rfl⟩) ⟨Nat.zero_le _, Nat.zero_le _⟩ (Nat.le_of_ble_eq_true rfl) dX12_sendsAct_87 ?_
        exact x_retSI X R hf dX12_sendsAct_90
theorem mt_X12_sendsAct : MT yX12_sendsAct cX12_sendsAct 4 (some .int) "SignalBlindModel" 2 := ⟨(mT_7 43 rfl rfl), (mTp (q := (yX12_sendsAct, 61)) (by decide +kernel) rfl), (mT_1 10 rfl rfl), (mT_7 44 rfl rfl), by decide⟩
theorem c_X12_348 {ω : XO} {rm : Room} {nL : Nat} {κ : XK} {cc : ByteArray} (X : XC ω rm nL κ cc "SignalBlindModel") (hω : ω.2.2.2.1 = 0) {L : List Nat} {q : Nat → Nat} {h h' : hp} {cells slots pc : Nat} {lv : List (Nat × Value)} {rest : List Value} {p0 : Int32} {p1 : Int32} {r : Int32} (hf : f_X12_sendsAct h p0 p1 = some (h', r)) (hR : rm_X12_sendsAct.frames + 1 ≤ rm.frames ∧ 8 + (4 + 11) + rm_X12_sendsAct.locals ≤ rm.locals) (hcs : cells ≤ rm.cells ∧ slots ≤ rm.slots) (hroom : (rest.map fun v => v.category).sum ≤ 8) (hd : decode cc pc = .ok (.invokevirtual 348, 3)) (kk : XG ω rm nL κ L q h' cells slots (pc + 3) lv (.int r :: rest)) : XG ω rm nL κ L q h cells slots pc lv (.int p1 :: .int p0 :: .ref (q 52) :: rest) := x_callV X [.int p0, .int p1] rest (k_X12_sendsAct hω hf) mt_X12_sendsAct (mT_7 41 rfl rfl) hR ⟨rfl, rfl⟩ hcs (sdM_52 hω) (ks_52 _) (by decide) rfl rfl hroom hd kk

abbrev rm_X12_senderTells : Room := { frames := 6, cells := 0, slots := 0, locals := 132 }
def f_X12_senderTells (h : hp) (p0 : Int32) (p1 : Int32) : Option (hp × Int32) := (bnd (f_X12_body h (12 : Int32)) fun h1 _ =>
 (bnd (f_X12_sendsAct h1 p0 p1) fun h3 r4 =>
 (some (h3, (r4 * (2 : Int32))))))
set_option maxRecDepth 100000 in
set_option maxHeartbeats 4000000 in
theorem k_X12_senderTells {ω : XO} (hω : ω.2.2.2.1 = 0) {L : List Nat} {q : Nat → Nat} {h h' : hp} {p0 : Int32} {p1 : Int32} {r : Int32} (hf : f_X12_senderTells h p0 p1 = some (h', r)) : XM ω yX12_senderTells cX12_senderTells 3 (some .int) rm_X12_senderTells L q h [.ref (q 52), .int p0, .int p1] (some (.int r)) h' := by
  refine XM_intro [(0, .ref (q 52)), (1, .int p0), (2, .int p1)] "SignalBlindModel" (by decide) rfl rfl (Nat.le_of_ble_eq_true rfl) (fun κ X R => ?_)
  unfold f_X12_senderTells at hf
  refine x_aload_n X dX12_senderTells_0 0 rfl rfl ?_
  refine x_bipush X (v := 12) dX12_senderTells_1 (by decide) ?_
  obtain ⟨h1, uh1, g2, hf⟩ := bnd_some hf
  refine c_X12_333 X hω g2 (hR := ⟨Nat.le_of_ble_eq_true rfl, Nat.le_of_ble_eq_true rfl⟩) ⟨Nat.zero_le _, Nat.zero_le _⟩ (Nat.le_of_ble_eq_true rfl) dX12_senderTells_3 ?_
  refine x_aload_n X dX12_senderTells_6 0 rfl rfl ?_
  refine x_iload_n X dX12_senderTells_7 1 rfl rfl ?_
  refine x_iload_n X dX12_senderTells_8 2 rfl rfl ?_
  obtain ⟨h3, r4, g5, hf⟩ := bnd_some hf
  refine c_X12_348 X hω g5 (hR := ⟨Nat.le_of_ble_eq_true rfl, Nat.le_of_ble_eq_true rfl⟩) ⟨Nat.zero_le _, Nat.zero_le _⟩ (Nat.le_of_ble_eq_true rfl) dX12_senderTells_9 ?_
  refine x_iconst X (v := 2) dX12_senderTells_12 (by decide) ?_
  refine x_imul X dX12_senderTells_13 ?_
  exact x_retSI X R hf dX12_senderTells_14
theorem mt_X12_senderTells : MT yX12_senderTells cX12_senderTells 3 (some .int) "SignalBlindModel" 2 := ⟨(mT_7 59 rfl rfl), (mTp (q := (yX12_senderTells, 61)) (by decide +kernel) rfl), (mT_1 10 rfl rfl), (mT_7 60 rfl rfl), by decide⟩
theorem c_X12_351 {ω : XO} {rm : Room} {nL : Nat} {κ : XK} {cc : ByteArray} (X : XC ω rm nL κ cc "SignalBlindModel") (hω : ω.2.2.2.1 = 0) {L : List Nat} {q : Nat → Nat} {h h' : hp} {cells slots pc : Nat} {lv : List (Nat × Value)} {rest : List Value} {p0 : Int32} {p1 : Int32} {r : Int32} (hf : f_X12_senderTells h p0 p1 = some (h', r)) (hR : rm_X12_senderTells.frames + 1 ≤ rm.frames ∧ 8 + (3 + 11) + rm_X12_senderTells.locals ≤ rm.locals) (hcs : cells ≤ rm.cells ∧ slots ≤ rm.slots) (hroom : (rest.map fun v => v.category).sum ≤ 8) (hd : decode cc pc = .ok (.invokevirtual 351, 3)) (kk : XG ω rm nL κ L q h' cells slots (pc + 3) lv (.int r :: rest)) : XG ω rm nL κ L q h cells slots pc lv (.int p1 :: .int p0 :: .ref (q 52) :: rest) := x_callV X [.int p0, .int p1] rest (k_X12_senderTells hω hf) mt_X12_senderTells (mT_7 57 rfl rfl) hR ⟨rfl, rfl⟩ hcs (sdM_52 hω) (ks_52 _) (by decide) rfl rfl hroom hd kk

abbrev rm_X12_tellsAct : Room := { frames := 7, cells := 0, slots := 0, locals := 154 }
def f_X12_tellsAct (h : hp) (p0 : Int32) (p1 : Int32) : Option (hp × Int32) := (chk p0 5
 (if (aI h 54 (p0).toNatClampNeg) = (3 : Int32) then
 (bnd (f_X12_body h (40 : Int32)) fun h3 _ =>
 (bnd (f_X12_senderTells h3 p0 p1) fun h5 r6 =>
 (bnd (f_X12_sendsAct h5 p0 (1 : Int32)) fun h8 r9 =>
 (some (h8, (r6 + r9))))))
 else
 (if (aI h 54 (p0).toNatClampNeg) = (4 : Int32) then
 (bnd (f_X12_senderTells h p0 p1) fun h12 r13 =>
 (some (h12, r13)))
 else
 (if (aI h 54 (p0).toNatClampNeg) = (5 : Int32) then
 (bnd (f_X12_body h (60 : Int32)) fun h16 _ =>
 (bnd (f_X12_senderTells h16 p0 (p1 - p0)) fun h18 r19 =>
 (some (h18, r19))))
 else
 (if (aI h 54 (p0).toNatClampNeg) = (6 : Int32) then
 (bnd (f_X12_body h (40 : Int32)) fun h22 _ =>
 (bnd (f_X12_senderTells h22 p0 p1) fun h24 r25 =>
 (bnd (f_X12_sendsAct h24 p0 (1 : Int32)) fun h27 r28 =>
 (some (h27, (r25 + r28))))))
 else
 (bnd (f_X12_senderTells h p0 p1) fun h30 r31 =>
 (some (h30, r31))))))))
set_option maxRecDepth 100000 in
set_option maxHeartbeats 4000000 in
theorem k_X12_tellsAct {ω : XO} (hω : ω.2.2.2.1 = 0) {L : List Nat} {q : Nat → Nat} {h h' : hp} {p0 : Int32} {p1 : Int32} {r : Int32} (hf : f_X12_tellsAct h p0 p1 = some (h', r)) : XM ω yX12_tellsAct cX12_tellsAct 4 (some .int) rm_X12_tellsAct L q h [.ref (q 52), .int p0, .int p1] (some (.int r)) h' := by
  refine XM_intro [(0, .ref (q 52)), (1, .int p0), (2, .int p1)] "SignalBlindModel" (by decide) rfl rfl (Nat.le_of_ble_eq_true rfl) (fun κ X R => ?_)
  unfold f_X12_tellsAct at hf
  refine x_aload_n X dX12_tellsAct_0 0 rfl rfl ?_
  refine x_getsj X (i := 52) 2 fl_X12_23_13 (sdM_52 hω) (ks_52 _) rfl (j := 54) rfl dX12_tellsAct_1 ?_
  refine x_iload_n X dX12_tellsAct_4 1 rfl rfl ?_
  obtain ⟨z1, hf⟩ := chk_some hf
  refine x_iald X (i := 54) (n := 5) (sdM_54 hω) (ks_54 _) z1 dX12_tellsAct_5 ?_
  by_cases s2 : (aI h 54 (p0).toNatClampNeg) = (3 : Int32)
  · replace hf := (if_pos s2).symm.trans hf
    refine x_tswI X (off := 30) 36 dX12_tellsAct_6 s2 (by decide) (by decide) (by decide) (by decide) ?_
    refine x_aload_n X dX12_tellsAct_36 0 rfl rfl ?_
    refine x_bipush X (v := 40) dX12_tellsAct_37 (by decide) ?_
    obtain ⟨h3, uh3, g4, hf⟩ := bnd_some hf
    refine c_X12_333 X hω g4 (hR := ⟨Nat.le_of_ble_eq_true rfl, Nat.le_of_ble_eq_true rfl⟩) ⟨Nat.zero_le _, Nat.zero_le _⟩ (Nat.le_of_ble_eq_true rfl) dX12_tellsAct_39 ?_
    refine x_aload_n X dX12_tellsAct_42 0 rfl rfl ?_
    refine x_iload_n X dX12_tellsAct_43 1 rfl rfl ?_
    refine x_iload_n X dX12_tellsAct_44 2 rfl rfl ?_
    obtain ⟨h5, r6, g7, hf⟩ := bnd_some hf
    refine c_X12_351 X hω g7 (hR := ⟨Nat.le_of_ble_eq_true rfl, Nat.le_of_ble_eq_true rfl⟩) ⟨Nat.zero_le _, Nat.zero_le _⟩ (Nat.le_of_ble_eq_true rfl) dX12_tellsAct_45 ?_
    refine x_istore_n X [(3, .int r6), (0, .ref (q 52)), (1, .int p0), (2, .int p1)] dX12_tellsAct_48 rfl (Nat.le_of_ble_eq_true rfl) rfl ?_
    refine x_iload_n X dX12_tellsAct_49 0 rfl rfl ?_
    refine x_aload_n X dX12_tellsAct_50 1 rfl rfl ?_
    refine x_iload_n X dX12_tellsAct_51 2 rfl rfl ?_
    refine x_iconst X (v := 1) dX12_tellsAct_52 (by decide) ?_
    obtain ⟨h8, r9, g10, hf⟩ := bnd_some hf
    refine c_X12_348 X hω g10 (hR := ⟨Nat.le_of_ble_eq_true rfl, Nat.le_of_ble_eq_true rfl⟩) ⟨Nat.zero_le _, Nat.zero_le _⟩ (Nat.le_of_ble_eq_true rfl) dX12_tellsAct_53 ?_
    refine x_iadd X dX12_tellsAct_56 ?_
    exact x_retSI X R hf dX12_tellsAct_57
  · replace hf := (if_neg s2).symm.trans hf
    by_cases s11 : (aI h 54 (p0).toNatClampNeg) = (4 : Int32)
    · replace hf := (if_pos s11).symm.trans hf
      refine x_tswI X (off := 67) 73 dX12_tellsAct_6 s11 (by decide) (by decide) (by decide) (by decide) ?_
      refine x_aload_n X dX12_tellsAct_73 0 rfl rfl ?_
      refine x_iload_n X dX12_tellsAct_74 1 rfl rfl ?_
      refine x_iload_n X dX12_tellsAct_75 2 rfl rfl ?_
      obtain ⟨h12, r13, g14, hf⟩ := bnd_some hf
      refine c_X12_351 X hω g14 (hR := ⟨Nat.le_of_ble_eq_true rfl, Nat.le_of_ble_eq_true rfl⟩) ⟨Nat.zero_le _, Nat.zero_le _⟩ (Nat.le_of_ble_eq_true rfl) dX12_tellsAct_76 ?_
      exact x_retSI X R hf dX12_tellsAct_79
    · replace hf := (if_neg s11).symm.trans hf
      by_cases s15 : (aI h 54 (p0).toNatClampNeg) = (5 : Int32)
      · replace hf := (if_pos s15).symm.trans hf
        refine x_tswI X (off := 52) 58 dX12_tellsAct_6 s15 (by decide) (by decide) (by decide) (by decide) ?_
        refine x_aload_n X dX12_tellsAct_58 0 rfl rfl ?_
        refine x_bipush X (v := 60) dX12_tellsAct_59 (by decide) ?_
        obtain ⟨h16, uh16, g17, hf⟩ := bnd_some hf
        refine c_X12_333 X hω g17 (hR := ⟨Nat.le_of_ble_eq_true rfl, Nat.le_of_ble_eq_true rfl⟩) ⟨Nat.zero_le _, Nat.zero_le _⟩ (Nat.le_of_ble_eq_true rfl) dX12_tellsAct_61 ?_
        refine x_aload_n X dX12_tellsAct_64 0 rfl rfl ?_
        refine x_iload_n X dX12_tellsAct_65 1 rfl rfl ?_
        refine x_iload_n X dX12_tellsAct_66 2 rfl rfl ?_
        refine x_iload_n X dX12_tellsAct_67 1 rfl rfl ?_
        refine x_isub X dX12_tellsAct_68 ?_
        obtain ⟨h18, r19, g20, hf⟩ := bnd_some hf
        refine c_X12_351 X hω g20 (hR := ⟨Nat.le_of_ble_eq_true rfl, Nat.le_of_ble_eq_true rfl⟩) ⟨Nat.zero_le _, Nat.zero_le _⟩ (Nat.le_of_ble_eq_true rfl) dX12_tellsAct_69 ?_
        exact x_retSI X R hf dX12_tellsAct_72
      · replace hf := (if_neg s15).symm.trans hf
        by_cases s21 : (aI h 54 (p0).toNatClampNeg) = (6 : Int32)
        · replace hf := (if_pos s21).symm.trans hf
          refine x_tswI X (off := 30) 36 dX12_tellsAct_6 s21 (by decide) (by decide) (by decide) (by decide) ?_
          refine x_aload_n X dX12_tellsAct_36 0 rfl rfl ?_
          refine x_bipush X (v := 40) dX12_tellsAct_37 (by decide) ?_
          obtain ⟨h22, uh22, g23, hf⟩ := bnd_some hf
          refine c_X12_333 X hω g23 (hR := ⟨Nat.le_of_ble_eq_true rfl, Nat.le_of_ble_eq_true rfl⟩) ⟨Nat.zero_le _, Nat.zero_le _⟩ (Nat.le_of_ble_eq_true rfl) dX12_tellsAct_39 ?_
          refine x_aload_n X dX12_tellsAct_42 0 rfl rfl ?_
          refine x_iload_n X dX12_tellsAct_43 1 rfl rfl ?_
          refine x_iload_n X dX12_tellsAct_44 2 rfl rfl ?_
          obtain ⟨h24, r25, g26, hf⟩ := bnd_some hf
          refine c_X12_351 X hω g26 (hR := ⟨Nat.le_of_ble_eq_true rfl, Nat.le_of_ble_eq_true rfl⟩) ⟨Nat.zero_le _, Nat.zero_le _⟩ (Nat.le_of_ble_eq_true rfl) dX12_tellsAct_45 ?_
          refine x_istore_n X [(3, .int r25), (0, .ref (q 52)), (1, .int p0), (2, .int p1)] dX12_tellsAct_48 rfl (Nat.le_of_ble_eq_true rfl) rfl ?_
          refine x_iload_n X dX12_tellsAct_49 0 rfl rfl ?_
          refine x_aload_n X dX12_tellsAct_50 1 rfl rfl ?_
          refine x_iload_n X dX12_tellsAct_51 2 rfl rfl ?_
          refine x_iconst X (v := 1) dX12_tellsAct_52 (by decide) ?_
          obtain ⟨h27, r28, g29, hf⟩ := bnd_some hf
          refine c_X12_348 X hω g29 (hR := ⟨Nat.le_of_ble_eq_true rfl, Nat.le_of_ble_eq_true rfl⟩) ⟨Nat.zero_le _, Nat.zero_le _⟩ (Nat.le_of_ble_eq_true rfl) dX12_tellsAct_53 ?_
          refine x_iadd X dX12_tellsAct_56 ?_
          exact x_retSI X R hf dX12_tellsAct_57
        · replace hf := (if_neg s21).symm.trans hf
          refine x_tswO X 73 dX12_tellsAct_6 (by have := lv_neT s2 (a := 3) (by decide); have := lv_neT s11 (a := 4) (by decide); have := lv_neT s15 (a := 5) (by decide); have := lv_neT s21 (a := 6) (by decide); omega) (by decide) ?_
          refine x_aload_n X dX12_tellsAct_73 0 rfl rfl ?_
          refine x_iload_n X dX12_tellsAct_74 1 rfl rfl ?_
          refine x_iload_n X dX12_tellsAct_75 2 rfl rfl ?_
          obtain ⟨h30, r31, g32, hf⟩ := bnd_some hf
          refine c_X12_351 X hω g32 (hR := ⟨Nat.le_of_ble_eq_true rfl, Nat.le_of_ble_eq_true rfl⟩) ⟨Nat.zero_le _, Nat.zero_le _⟩ (Nat.le_of_ble_eq_true rfl) dX12_tellsAct_76 ?_
          exact x_retSI X R hf dX12_tellsAct_79
theorem mt_X12_tellsAct : MT yX12_tellsAct cX12_tellsAct 4 (some .int) "SignalBlindModel" 2 := ⟨(mT_7 55 rfl rfl), (mTp (q := (yX12_tellsAct, 61)) (by decide +kernel) rfl), (mT_1 10 rfl rfl), (mT_7 56 rfl rfl), by decide⟩
theorem c_X12_354 {ω : XO} {rm : Room} {nL : Nat} {κ : XK} {cc : ByteArray} (X : XC ω rm nL κ cc "SignalBlindModel") (hω : ω.2.2.2.1 = 0) {L : List Nat} {q : Nat → Nat} {h h' : hp} {cells slots pc : Nat} {lv : List (Nat × Value)} {rest : List Value} {p0 : Int32} {p1 : Int32} {r : Int32} (hf : f_X12_tellsAct h p0 p1 = some (h', r)) (hR : rm_X12_tellsAct.frames + 1 ≤ rm.frames ∧ 8 + (4 + 11) + rm_X12_tellsAct.locals ≤ rm.locals) (hcs : cells ≤ rm.cells ∧ slots ≤ rm.slots) (hroom : (rest.map fun v => v.category).sum ≤ 8) (hd : decode cc pc = .ok (.invokevirtual 354, 3)) (kk : XG ω rm nL κ L q h' cells slots (pc + 3) lv (.int r :: rest)) : XG ω rm nL κ L q h cells slots pc lv (.int p1 :: .int p0 :: .ref (q 52) :: rest) := x_callV X [.int p0, .int p1] rest (k_X12_tellsAct hω hf) mt_X12_tellsAct (mT_7 53 rfl rfl) hR ⟨rfl, rfl⟩ hcs (sdM_52 hω) (ks_52 _) (by decide) rfl rfl hroom hd kk

abbrev rm_X12_act : Room := { frames := 8, cells := 0, slots := 0, locals := 177 }
def f_X12_act_23 (h : hp) : Option (hp × Int32) := (some (h, (0 : Int32)))
def f_X12_act_58 (h : hp) (a12 : Int32) : Option (hp × Int32) := (some (h, a12))
def f_X12_act (h : hp) (p0 : Int32) (p1 : Int32) (p2 : Int32) : Option (hp × Int32) := (nm (sI h 52 55 (0 : Int32)) fun h1 =>
 (bnr (f_X12_isSender h1 p0) fun r2 =>
 (if r2 = 0 then
 (f_X12_act_23 h1)
 else
 (bnr (f_X12_in h1 p1 (0 : Int32) (2 : Int32)) fun r5 =>
 (if r5 = 0 then
 (f_X12_act_23 h1)
 else
 (if p1 = 0 then
 (bnd (f_X12_tiltsAct h1 p0 p2) fun h9 r10 =>
 (f_X12_act_58 h9 r10))
 else
 (if p1 = (1 : Int32) then
 (bnd (f_X12_sendsAct h1 p0 p2) fun h14 r15 =>
 (f_X12_act_58 h14 r15))
 else
 (bnd (f_X12_tellsAct h1 p0 p2) fun h17 r18 =>
 (f_X12_act_58 h17 r18)))))))))
set_option maxRecDepth 100000 in
set_option maxHeartbeats 4000000 in
theorem k_X12_act_23 {ω : XO} (hω : ω.2.2.2.1 = 0) {κ : XK} (X : XC ω rm_X12_act 4 κ cX12_act "SignalBlindModel") {L : List Nat} {q : Nat → Nat} {h' : hp} {r : Int32} (R : XRet ω rm_X12_act κ (some .int) L q h' (some (.int r))) : ∀ (h : hp), f_X12_act_23 h = some (h', r) → XG ω rm_X12_act 4 κ L q h 0 0 23 [] [] := by
  intro h hf
  unfold f_X12_act_23 at hf
  refine x_iconst X (v := 0) dX12_act_23 (by decide) ?_
  exact x_retSI X R hf dX12_act_24
set_option maxRecDepth 100000 in
set_option maxHeartbeats 4000000 in
theorem k_X12_act_58 {ω : XO} (hω : ω.2.2.2.1 = 0) {κ : XK} (X : XC ω rm_X12_act 4 κ cX12_act "SignalBlindModel") {L : List Nat} {q : Nat → Nat} {h' : hp} {r : Int32} (R : XRet ω rm_X12_act κ (some .int) L q h' (some (.int r))) : ∀ (h : hp) (a12 : Int32), f_X12_act_58 h a12 = some (h', r) → XG ω rm_X12_act 4 κ L q h 0 0 58 [] [.int a12] := by
  intro h a12 hf
  unfold f_X12_act_58 at hf
  exact x_retSI X R hf dX12_act_58
set_option maxRecDepth 100000 in
set_option maxHeartbeats 4000000 in
theorem k_X12_act {ω : XO} (hω : ω.2.2.2.1 = 0) {L : List Nat} {q : Nat → Nat} {h h' : hp} {p0 : Int32} {p1 : Int32} {p2 : Int32} {r : Int32} (hf : f_X12_act h p0 p1 p2 = some (h', r)) : XM ω yX12_act cX12_act 4 (some .int) rm_X12_act L q h [.ref (q 52), .int p0, .int p1, .int p2] (some (.int r)) h' := by
  refine XM_intro [(0, .ref (q 52)), (1, .int p0), (2, .int p1), (3, .int p2)] "SignalBlindModel" (by decide) rfl rfl (Nat.le_of_ble_eq_true rfl) (fun κ X R => ?_)
  unfold f_X12_act at hf
  refine x_aload_n X dX12_act_0 0 rfl rfl ?_
  refine x_iconst X (v := 0) dX12_act_1 (by decide) ?_
  refine x_puti X (i := 52) fl_X12_178_13 fw_13 (sdM_52 hω) (ks_52 _) rfl rfl rfl rfl dX12_act_2 ?_
  obtain ⟨h1, eh1, hf⟩ := nm_some hf
  refine x_nmh eh1 ?_
  refine x_aload_n X dX12_act_5 0 rfl rfl ?_
  refine x_iload_n X dX12_act_6 1 rfl rfl ?_
  obtain ⟨r2, g3, hf⟩ := bnr_some hf
  refine c_X12_212 X hω g3 (hR := ⟨Nat.le_of_ble_eq_true rfl, Nat.le_of_ble_eq_true rfl⟩) ⟨Nat.zero_le _, Nat.zero_le _⟩ (Nat.le_of_ble_eq_true rfl) dX12_act_7 ?_
  refine x_if_eq X 23 dX12_act_10 (by decide) (fun c4 => ?_) (fun c4 => ?_)
  · replace hf := (if_pos c4).symm.trans hf
    refine x_lv [] rfl ?_
    exact k_X12_act_23 hω X R h1 hf
  · replace hf := (if_neg c4).symm.trans hf
    refine x_aload_n X dX12_act_13 0 rfl rfl ?_
    refine x_iload_n X dX12_act_14 2 rfl rfl ?_
    refine x_iconst X (v := 0) dX12_act_15 (by decide) ?_
    refine x_iconst X (v := 2) dX12_act_16 (by decide) ?_
    obtain ⟨r5, g6, hf⟩ := bnr_some hf
    refine c_X12_201 X hω g6 (hR := ⟨Nat.le_of_ble_eq_true rfl, Nat.le_of_ble_eq_true rfl⟩) ⟨Nat.zero_le _, Nat.zero_le _⟩ (Nat.le_of_ble_eq_true rfl) dX12_act_17 ?_
    refine x_if_ne X 25 dX12_act_20 (by decide) (fun c7 => ?_) (fun c7 => ?_)
    · replace hf := (if_pos c7).symm.trans hf
      refine x_lv [] rfl ?_
      exact k_X12_act_23 hω X R h1 hf
    · replace hf := (if_neg c7).symm.trans hf
      refine x_iload_n X dX12_act_25 2 rfl rfl ?_
      refine x_if_ne X 38 dX12_act_26 (by decide) (fun c8 => ?_) (fun c8 => ?_)
      · replace hf := (if_pos c8).symm.trans hf
        refine x_aload_n X dX12_act_29 0 rfl rfl ?_
        refine x_iload_n X dX12_act_30 1 rfl rfl ?_
        refine x_iload_n X dX12_act_31 3 rfl rfl ?_
        obtain ⟨h9, r10, g11, hf⟩ := bnd_some hf
        refine c_X12_339 X hω g11 (hR := ⟨Nat.le_of_ble_eq_true rfl, Nat.le_of_ble_eq_true rfl⟩) ⟨Nat.zero_le _, Nat.zero_le _⟩ (Nat.le_of_ble_eq_true rfl) dX12_act_32 ?_
        refine x_goto X 58 dX12_act_35 (by decide) ?_
        refine x_lv [] rfl ?_
        exact k_X12_act_58 hω X R h9 _ hf
      · replace hf := (if_neg c8).symm.trans hf
        refine x_iload_n X dX12_act_38 2 rfl rfl ?_
        refine x_iconst X (v := 1) dX12_act_39 (by decide) ?_
        refine x_icmp_ne X 52 dX12_act_40 (by decide) (fun c13 => ?_) (fun c13 => ?_)
        · replace hf := (if_pos c13).symm.trans hf
          refine x_aload_n X dX12_act_43 0 rfl rfl ?_
          refine x_iload_n X dX12_act_44 1 rfl rfl ?_
          refine x_iload_n X dX12_act_45 3 rfl rfl ?_
          obtain ⟨h14, r15, g16, hf⟩ := bnd_some hf
          refine c_X12_348 X hω g16 (hR := ⟨Nat.le_of_ble_eq_true rfl, Nat.le_of_ble_eq_true rfl⟩) ⟨Nat.zero_le _, Nat.zero_le _⟩ (Nat.le_of_ble_eq_true rfl) dX12_act_46 ?_
          refine x_goto X 58 dX12_act_49 (by decide) ?_
          refine x_lv [] rfl ?_
          exact k_X12_act_58 hω X R h14 _ hf
        · replace hf := (if_neg c13).symm.trans hf
          refine x_aload_n X dX12_act_52 0 rfl rfl ?_
          refine x_iload_n X dX12_act_53 1 rfl rfl ?_
          refine x_iload_n X dX12_act_54 3 rfl rfl ?_
          obtain ⟨h17, r18, g19, hf⟩ := bnd_some hf
          refine c_X12_354 X hω g19 (hR := ⟨Nat.le_of_ble_eq_true rfl, Nat.le_of_ble_eq_true rfl⟩) ⟨Nat.zero_le _, Nat.zero_le _⟩ (Nat.le_of_ble_eq_true rfl) dX12_act_55 ?_
          refine x_lv [] rfl ?_
          exact k_X12_act_58 hω X R h17 _ hf
theorem mt_X12_act : MT yX12_act cX12_act 4 (some .int) "SignalBlindModel" 3 := ⟨(mT_7 26 rfl rfl), (mT_7 27 rfl rfl), (mT_1 10 rfl rfl), (mT_7 28 rfl rfl), by decide⟩

abbrev rm_X12_trace : Room := { frames := 1, cells := 0, slots := 0, locals := 23 }
def f_X12_trace_29 (h : hp) (a4 : Int32) : Option Int32 := (some a4)
def f_X12_trace_28 (h : hp) : Option Int32 := (f_X12_trace_29 h (-1 : Int32))
def f_X12_trace (h : hp) (p0 : Int32) : Option Int32 := (bnr (f_X12_in h p0 (0 : Int32) (19 : Int32)) fun r1 =>
 (if r1 = 0 then
 (f_X12_trace_28 h)
 else
 (if p0 < (hI h 52 55) then
 (chk p0 20
 (f_X12_trace_29 h (aI h 86 (p0).toNatClampNeg)))
 else
 (f_X12_trace_28 h))))
set_option maxRecDepth 100000 in
set_option maxHeartbeats 4000000 in
theorem k_X12_trace_29 {ω : XO} (hω : ω.2.2.2.1 = 0) {κ : XK} (X : XC ω rm_X12_trace 2 κ cX12_trace "SignalBlindModel") {L : List Nat} {q : Nat → Nat} {h : hp} {r : Int32} (R : XRet ω rm_X12_trace κ (some .int) L q h (some (.int r))) : ∀ (a4 : Int32), f_X12_trace_29 h a4 = some r → XG ω rm_X12_trace 2 κ L q h 0 0 29 [] [.int a4] := by
  intro a4 hf
  unfold f_X12_trace_29 at hf
  exact x_retRI X R hf dX12_trace_29
set_option maxRecDepth 100000 in
set_option maxHeartbeats 4000000 in
theorem k_X12_trace_28 {ω : XO} (hω : ω.2.2.2.1 = 0) {κ : XK} (X : XC ω rm_X12_trace 2 κ cX12_trace "SignalBlindModel") {L : List Nat} {q : Nat → Nat} {h : hp} {r : Int32} (R : XRet ω rm_X12_trace κ (some .int) L q h (some (.int r))) : f_X12_trace_28 h = some r → XG ω rm_X12_trace 2 κ L q h 0 0 28 [] [] := by
  intro  hf
  unfold f_X12_trace_28 at hf
  refine x_iconst X (v := -1) dX12_trace_28 (by decide) ?_
  refine x_lv [] rfl ?_
  exact k_X12_trace_29 hω X R _ hf
set_option maxRecDepth 100000 in
set_option maxHeartbeats 4000000 in
theorem k_X12_trace {ω : XO} (hω : ω.2.2.2.1 = 0) {L : List Nat} {q : Nat → Nat} {h : hp} {p0 : Int32} {r : Int32} (hf : f_X12_trace h p0 = some r) : XM ω yX12_trace cX12_trace 2 (some .int) rm_X12_trace L q h [.ref (q 52), .int p0] (some (.int r)) h := by
  refine XM_intro [(0, .ref (q 52)), (1, .int p0)] "SignalBlindModel" (by decide) rfl rfl (Nat.le_of_ble_eq_true rfl) (fun κ X R => ?_)
  unfold f_X12_trace at hf
  refine x_aload_n X dX12_trace_0 0 rfl rfl ?_
  refine x_iload_n X dX12_trace_1 1 rfl rfl ?_
  refine x_iconst X (v := 0) dX12_trace_2 (by decide) ?_
  refine x_bipush X (v := 19) dX12_trace_3 (by decide) ?_
  obtain ⟨r1, g2, hf⟩ := bnr_some hf
  refine c_X12_201 X hω g2 (hR := ⟨Nat.le_of_ble_eq_true rfl, Nat.le_of_ble_eq_true rfl⟩) ⟨Nat.zero_le _, Nat.zero_le _⟩ (Nat.le_of_ble_eq_true rfl) dX12_trace_5 ?_
  refine x_if_eq X 28 dX12_trace_8 (by decide) (fun c3 => ?_) (fun c3 => ?_)
  · replace hf := (if_pos c3).symm.trans hf
    refine x_lv [] rfl ?_
    exact k_X12_trace_28 hω X R  hf
  · replace hf := (if_neg c3).symm.trans hf
    refine x_iload_n X dX12_trace_11 1 rfl rfl ?_
    refine x_aload_n X dX12_trace_12 0 rfl rfl ?_
    refine x_geti X (i := 52) fl_X12_178_13 (sdM_52 hω) (ks_52 _) rfl dX12_trace_13 ?_
    refine x_icmp_ge X 28 dX12_trace_16 (by decide) (fun c5 => ?_) (fun c5 => ?_)
    · replace hf := (if_pos c5).symm.trans hf
      refine x_aload_n X dX12_trace_19 0 rfl rfl ?_
      refine x_getsj X (i := 52) 34 fl_X12_181_13 (sdM_52 hω) (ks_52 _) rfl (j := 86) rfl dX12_trace_20 ?_
      refine x_iload_n X dX12_trace_23 1 rfl rfl ?_
      obtain ⟨z6, hf⟩ := chk_some hf
      refine x_iald X (i := 86) (n := 20) (sdM_86 hω) (ks_86 _) z6 dX12_trace_24 ?_
      refine x_goto X 29 dX12_trace_25 (by decide) ?_
      refine x_lv [] rfl ?_
      exact k_X12_trace_29 hω X R _ hf
    · replace hf := (if_neg c5).symm.trans hf
      refine x_lv [] rfl ?_
      exact k_X12_trace_28 hω X R  hf
theorem mt_X12_trace : MT yX12_trace cX12_trace 2 (some .int) "SignalBlindModel" 1 := ⟨(mT_7 62 rfl rfl), (mT_7 63 rfl rfl), (mT_1 10 rfl rfl), (mT_7 64 rfl rfl), by decide⟩

abbrev rm_X12_taken : Room := { frames := 2, cells := 0, slots := 0, locals := 44 }
def f_X12_taken_78 (h : hp) (a11 : Int32) : Option Int32 := (some a11)
def f_X12_taken_72 (h : hp) (a10 : Int32) : Option Int32 := (f_X12_taken_78 h a10)
def f_X12_taken_76 (h : hp) : Option Int32 := (f_X12_taken_78 h (-12 : Int32))
def f_X12_taken_61 (h : hp) (a19 : Int32) (a20 : Int32) : Option Int32 := (if a19 = (3 : Int32) then
 (if a20 = (6 : Int32) then
 (f_X12_taken_72 h a20)
 else
 (f_X12_taken_76 h))
 else
 (f_X12_taken_76 h))
def f_X12_taken_51 (h : hp) (a15 : Int32) (a16 : Int32) : Option Int32 := (if a15 = (2 : Int32) then
 (if a16 = (5 : Int32) then
 (f_X12_taken_72 h a16)
 else
 (f_X12_taken_61 h a15 a16))
 else
 (f_X12_taken_61 h a15 a16))
def f_X12_taken (h : hp) (p0 : Int32) (p1 : Int32) : Option Int32 := (bnr (f_X12_in h p1 (0 : Int32) (6 : Int32)) fun r1 =>
 (if r1 = 0 then
 (some (-2 : Int32))
 else
 (bnr (f_X12_isSender h p0) fun r4 =>
 (if r4 = 0 then
 (some (-11 : Int32))
 else
 (chk p0 5
 (nm (aI h 54 (p0).toNatClampNeg) fun v8 =>
 (if p1 = 0 then
 (f_X12_taken_72 h v8)
 else
 (if v8 = p1 then
 (f_X12_taken_72 h v8)
 else
 (if p1 = (1 : Int32) then
 (if v8 = (4 : Int32) then
 (f_X12_taken_72 h v8)
 else
 (f_X12_taken_51 h p1 v8))
 else
 (f_X12_taken_51 h p1 v8))))))))))
set_option maxRecDepth 100000 in
set_option maxHeartbeats 4000000 in
theorem k_X12_taken_78 {ω : XO} (hω : ω.2.2.2.1 = 0) {κ : XK} (X : XC ω rm_X12_taken 4 κ cX12_taken "SignalBlindModel") {L : List Nat} {q : Nat → Nat} {h : hp} {r : Int32} (R : XRet ω rm_X12_taken κ (some .int) L q h (some (.int r))) : ∀ (a11 : Int32), f_X12_taken_78 h a11 = some r → XG ω rm_X12_taken 4 κ L q h 0 0 78 [] [.int a11] := by
  intro a11 hf
  unfold f_X12_taken_78 at hf
  exact x_retRI X R hf dX12_taken_78
set_option maxRecDepth 100000 in
set_option maxHeartbeats 4000000 in
theorem k_X12_taken_72 {ω : XO} (hω : ω.2.2.2.1 = 0) {κ : XK} (X : XC ω rm_X12_taken 4 κ cX12_taken "SignalBlindModel") {L : List Nat} {q : Nat → Nat} {h : hp} {r : Int32} (R : XRet ω rm_X12_taken κ (some .int) L q h (some (.int r))) : ∀ (a10 : Int32), f_X12_taken_72 h a10 = some r → XG ω rm_X12_taken 4 κ L q h 0 0 72 [(3, .int a10)] [] := by
  intro a10 hf
  unfold f_X12_taken_72 at hf
  refine x_iload_n X dX12_taken_72 0 rfl rfl ?_
  refine x_goto X 78 dX12_taken_73 (by decide) ?_
  refine x_lv [] rfl ?_
  exact k_X12_taken_78 hω X R _ hf
set_option maxRecDepth 100000 in
set_option maxHeartbeats 4000000 in
theorem k_X12_taken_76 {ω : XO} (hω : ω.2.2.2.1 = 0) {κ : XK} (X : XC ω rm_X12_taken 4 κ cX12_taken "SignalBlindModel") {L : List Nat} {q : Nat → Nat} {h : hp} {r : Int32} (R : XRet ω rm_X12_taken κ (some .int) L q h (some (.int r))) : f_X12_taken_76 h = some r → XG ω rm_X12_taken 4 κ L q h 0 0 76 [] [] := by
  intro  hf
  unfold f_X12_taken_76 at hf
  refine x_bipush X (v := -12) dX12_taken_76 (by decide) ?_
  refine x_lv [] rfl ?_
  exact k_X12_taken_78 hω X R _ hf
set_option maxRecDepth 100000 in
set_option maxHeartbeats 4000000 in
theorem k_X12_taken_61 {ω : XO} (hω : ω.2.2.2.1 = 0) {κ : XK} (X : XC ω rm_X12_taken 4 κ cX12_taken "SignalBlindModel") {L : List Nat} {q : Nat → Nat} {h : hp} {r : Int32} (R : XRet ω rm_X12_taken κ (some .int) L q h (some (.int r))) : ∀ (a19 : Int32) (a20 : Int32), f_X12_taken_61 h a19 a20 = some r → XG ω rm_X12_taken 4 κ L q h 0 0 61 [(2, .int a19), (3, .int a20)] [] := by
  intro a19 a20 hf
  unfold f_X12_taken_61 at hf
  refine x_iload_n X dX12_taken_61 0 rfl rfl ?_
  refine x_iconst X (v := 3) dX12_taken_62 (by decide) ?_
  refine x_icmp_ne X 76 dX12_taken_63 (by decide) (fun c21 => ?_) (fun c21 => ?_)
  · replace hf := (if_pos c21).symm.trans hf
    refine x_iload_n X dX12_taken_66 1 rfl rfl ?_
    refine x_bipush X (v := 6) dX12_taken_67 (by decide) ?_
    refine x_icmp_ne X 76 dX12_taken_69 (by decide) (fun c22 => ?_) (fun c22 => ?_)
    · replace hf := (if_pos c22).symm.trans hf
      refine x_lv [1] rfl ?_
      exact k_X12_taken_72 hω X R _ hf
    · replace hf := (if_neg c22).symm.trans hf
      refine x_lv [] rfl ?_
      exact k_X12_taken_76 hω X R  hf
  · replace hf := (if_neg c21).symm.trans hf
    refine x_lv [] rfl ?_
    exact k_X12_taken_76 hω X R  hf
set_option maxRecDepth 100000 in
set_option maxHeartbeats 4000000 in
theorem k_X12_taken_51 {ω : XO} (hω : ω.2.2.2.1 = 0) {κ : XK} (X : XC ω rm_X12_taken 4 κ cX12_taken "SignalBlindModel") {L : List Nat} {q : Nat → Nat} {h : hp} {r : Int32} (R : XRet ω rm_X12_taken κ (some .int) L q h (some (.int r))) : ∀ (a15 : Int32) (a16 : Int32), f_X12_taken_51 h a15 a16 = some r → XG ω rm_X12_taken 4 κ L q h 0 0 51 [(2, .int a15), (3, .int a16)] [] := by
  intro a15 a16 hf
  unfold f_X12_taken_51 at hf
  refine x_iload_n X dX12_taken_51 0 rfl rfl ?_
  refine x_iconst X (v := 2) dX12_taken_52 (by decide) ?_
  refine x_icmp_ne X 61 dX12_taken_53 (by decide) (fun c17 => ?_) (fun c17 => ?_)
  · replace hf := (if_pos c17).symm.trans hf
    refine x_iload_n X dX12_taken_56 1 rfl rfl ?_
    refine x_iconst X (v := 5) dX12_taken_57 (by decide) ?_
    refine x_icmp_eq X 72 dX12_taken_58 (by decide) (fun c18 => ?_) (fun c18 => ?_)
    · replace hf := (if_pos c18).symm.trans hf
      refine x_lv [1] rfl ?_
      exact k_X12_taken_72 hω X R _ hf
    · replace hf := (if_neg c18).symm.trans hf
      refine x_lv [0, 1] rfl ?_
      exact k_X12_taken_61 hω X R _ _ hf
  · replace hf := (if_neg c17).symm.trans hf
    refine x_lv [0, 1] rfl ?_
    exact k_X12_taken_61 hω X R _ _ hf
set_option maxRecDepth 100000 in
set_option maxHeartbeats 4000000 in
theorem k_X12_taken {ω : XO} (hω : ω.2.2.2.1 = 0) {L : List Nat} {q : Nat → Nat} {h : hp} {p0 : Int32} {p1 : Int32} {r : Int32} (hf : f_X12_taken h p0 p1 = some r) : XM ω yX12_taken cX12_taken 4 (some .int) rm_X12_taken L q h [.ref (q 52), .int p0, .int p1] (some (.int r)) h := by
  refine XM_intro [(0, .ref (q 52)), (1, .int p0), (2, .int p1)] "SignalBlindModel" (by decide) rfl rfl (Nat.le_of_ble_eq_true rfl) (fun κ X R => ?_)
  unfold f_X12_taken at hf
  refine x_aload_n X dX12_taken_0 0 rfl rfl ?_
  refine x_iload_n X dX12_taken_1 2 rfl rfl ?_
  refine x_iconst X (v := 0) dX12_taken_2 (by decide) ?_
  refine x_bipush X (v := 6) dX12_taken_3 (by decide) ?_
  obtain ⟨r1, g2, hf⟩ := bnr_some hf
  refine c_X12_201 X hω g2 (hR := ⟨Nat.le_of_ble_eq_true rfl, Nat.le_of_ble_eq_true rfl⟩) ⟨Nat.zero_le _, Nat.zero_le _⟩ (Nat.le_of_ble_eq_true rfl) dX12_taken_5 ?_
  refine x_if_ne X 14 dX12_taken_8 (by decide) (fun c3 => ?_) (fun c3 => ?_)
  · replace hf := (if_pos c3).symm.trans hf
    refine x_bipush X (v := -2) dX12_taken_11 (by decide) ?_
    exact x_retRI X R hf dX12_taken_13
  · replace hf := (if_neg c3).symm.trans hf
    refine x_aload_n X dX12_taken_14 0 rfl rfl ?_
    refine x_iload_n X dX12_taken_15 1 rfl rfl ?_
    obtain ⟨r4, g5, hf⟩ := bnr_some hf
    refine c_X12_212 X hω g5 (hR := ⟨Nat.le_of_ble_eq_true rfl, Nat.le_of_ble_eq_true rfl⟩) ⟨Nat.zero_le _, Nat.zero_le _⟩ (Nat.le_of_ble_eq_true rfl) dX12_taken_16 ?_
    refine x_if_ne X 25 dX12_taken_19 (by decide) (fun c6 => ?_) (fun c6 => ?_)
    · replace hf := (if_pos c6).symm.trans hf
      refine x_bipush X (v := -11) dX12_taken_22 (by decide) ?_
      exact x_retRI X R hf dX12_taken_24
    · replace hf := (if_neg c6).symm.trans hf
      refine x_aload_n X dX12_taken_25 0 rfl rfl ?_
      refine x_getsj X (i := 52) 2 fl_X12_23_13 (sdM_52 hω) (ks_52 _) rfl (j := 54) rfl dX12_taken_26 ?_
      refine x_iload_n X dX12_taken_29 1 rfl rfl ?_
      obtain ⟨z7, hf⟩ := chk_some hf
      refine x_iald X (i := 54) (n := 5) (sdM_54 hω) (ks_54 _) z7 dX12_taken_30 ?_
      obtain ⟨v8, ev8, hf⟩ := nm_some hf
      refine x_nmI ev8 ?_
      refine x_istore_n X [(3, .int v8), (0, .ref (q 52)), (1, .int p0), (2, .int p1)] dX12_taken_31 rfl (Nat.le_of_ble_eq_true rfl) rfl ?_
      refine x_iload_n X dX12_taken_32 3 rfl rfl ?_
      refine x_if_eq X 72 dX12_taken_33 (by decide) (fun c9 => ?_) (fun c9 => ?_)
      · replace hf := (if_pos c9).symm.trans hf
        refine x_lv [0] rfl ?_
        exact k_X12_taken_72 hω X R _ hf
      · replace hf := (if_neg c9).symm.trans hf
        refine x_iload_n X dX12_taken_36 0 rfl rfl ?_
        refine x_iload_n X dX12_taken_37 3 rfl rfl ?_
        refine x_icmp_eq X 72 dX12_taken_38 (by decide) (fun c12 => ?_) (fun c12 => ?_)
        · replace hf := (if_pos c12).symm.trans hf
          refine x_lv [0] rfl ?_
          exact k_X12_taken_72 hω X R _ hf
        · replace hf := (if_neg c12).symm.trans hf
          refine x_iload_n X dX12_taken_41 3 rfl rfl ?_
          refine x_iconst X (v := 1) dX12_taken_42 (by decide) ?_
          refine x_icmp_ne X 51 dX12_taken_43 (by decide) (fun c13 => ?_) (fun c13 => ?_)
          · replace hf := (if_pos c13).symm.trans hf
            refine x_iload_n X dX12_taken_46 0 rfl rfl ?_
            refine x_iconst X (v := 4) dX12_taken_47 (by decide) ?_
            refine x_icmp_eq X 72 dX12_taken_48 (by decide) (fun c14 => ?_) (fun c14 => ?_)
            · replace hf := (if_pos c14).symm.trans hf
              refine x_lv [0] rfl ?_
              exact k_X12_taken_72 hω X R _ hf
            · replace hf := (if_neg c14).symm.trans hf
              refine x_lv [3, 0] rfl ?_
              exact k_X12_taken_51 hω X R _ _ hf
          · replace hf := (if_neg c13).symm.trans hf
            refine x_lv [3, 0] rfl ?_
            exact k_X12_taken_51 hω X R _ _ hf
theorem mt_X12_taken : MT yX12_taken cX12_taken 4 (some .int) "SignalBlindModel" 2 := ⟨(mT_7 66 rfl rfl), (mT_7 67 rfl rfl), (mT_1 10 rfl rfl), (mT_7 68 rfl rfl), by decide⟩
