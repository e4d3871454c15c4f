abbrev rm_X12_count : Room := { frames := 0, cells := 0, slots := 0, locals := 0 }
def f_X12_count (h : hp) (p0 : Int32) : Option Int32 := (if p0 = (0 : Int32) then
 (some (hI h 52 1))
 else
 (if p0 = (1 : Int32) then
 (some (hI h 52 0))
 else
 (if p0 = (2 : Int32) then
 (some (hI h 52 8))
 else
 (if p0 = (3 : Int32) then
 (some (hI h 52 29))
 else
 (if p0 = (4 : Int32) then
 (some (hI h 52 32))
 else
 (if p0 = (5 : Int32) then
 (some (hI h 52 33))
 else
 (if p0 = (6 : Int32) then
 (some (hI h 52 10))
 else
 (if p0 = (7 : Int32) then
 (some (hI h 52 55))
 else
 (some (-2 : Int32))))))))))
set_option maxRecDepth 100000 in
set_option maxHeartbeats 4000000 in
theorem k_X12_count {ω : XO} (hω : ω.2.2.2.1 = 0) {L : List Nat} {q : Nat → Nat} {h : hp} {p0 : Int32} {r : Int32} (hf : f_X12_count h p0 = some r) : XM ω yX12_count cX12_count 2 (some .int) rm_X12_count L q h [.ref (q 52), .int p0] (some (.int r)) h := by
  refine XM_intro [(0, .ref (q 52)), (1, .int p0)] "SignalBlindModel" (by decide) rfl rfl (Nat.le_of_ble_eq_true rfl) (fun κ X R => ?_)
  unfold f_X12_count at hf
  refine x_iload_n X dX12_count_0 1 rfl rfl ?_
  by_cases s1 : p0 = (0 : Int32)
  · replace hf := (if_pos s1).symm.trans hf
    refine x_tswI X (off := 47) 48 dX12_count_1 s1 (by decide) (by decide) (by decide) (by decide) ?_
    refine x_aload_n X dX12_count_48 0 rfl rfl ?_
    refine x_geti X (i := 52) fl_X12_13_13 (sdM_52 hω) (ks_52 _) rfl dX12_count_49 ?_
    exact x_retRI X R hf dX12_count_52
  · replace hf := (if_neg s1).symm.trans hf
    by_cases s2 : p0 = (1 : Int32)
    · replace hf := (if_pos s2).symm.trans hf
      refine x_tswI X (off := 52) 53 dX12_count_1 s2 (by decide) (by decide) (by decide) (by decide) ?_
      refine x_aload_n X dX12_count_53 0 rfl rfl ?_
      refine x_geti X (i := 52) fl_X12_7_13 (sdM_52 hω) (ks_52 _) rfl dX12_count_54 ?_
      exact x_retRI X R hf dX12_count_57
    · replace hf := (if_neg s2).symm.trans hf
      by_cases s3 : p0 = (2 : Int32)
      · replace hf := (if_pos s3).symm.trans hf
        refine x_tswI X (off := 57) 58 dX12_count_1 s3 (by decide) (by decide) (by decide) (by decide) ?_
        refine x_aload_n X dX12_count_58 0 rfl rfl ?_
        refine x_geti X (i := 52) fl_X12_35_13 (sdM_52 hω) (ks_52 _) rfl dX12_count_59 ?_
        exact x_retRI X R hf dX12_count_62
      · replace hf := (if_neg s3).symm.trans hf
        by_cases s4 : p0 = (3 : Int32)
        · replace hf := (if_pos s4).symm.trans hf
          refine x_tswI X (off := 62) 63 dX12_count_1 s4 (by decide) (by decide) (by decide) (by decide) ?_
          refine x_aload_n X dX12_count_63 0 rfl rfl ?_
          refine x_geti X (i := 52) fl_X12_99_13 (sdM_52 hω) (ks_52 _) rfl dX12_count_64 ?_
          exact x_retRI X R hf dX12_count_67
        · replace hf := (if_neg s4).symm.trans hf
          by_cases s5 : p0 = (4 : Int32)
          · replace hf := (if_pos s5).symm.trans hf
            refine x_tswI X (off := 67) 68 dX12_count_1 s5 (by decide) (by decide) (by decide) (by decide) ?_
            refine x_aload_n X dX12_count_68 0 rfl rfl ?_
            refine x_geti X (i := 52) fl_X12_108_13 (sdM_52 hω) (ks_52 _) rfl dX12_count_69 ?_
            exact x_retRI X R hf dX12_count_72
          · replace hf := (if_neg s5).symm.trans hf
            by_cases s6 : p0 = (5 : Int32)
            · replace hf := (if_pos s6).symm.trans hf
              refine x_tswI X (off := 72) 73 dX12_count_1 s6 (by decide) (by decide) (by decide) (by decide) ?_
              refine x_aload_n X dX12_count_73 0 rfl rfl ?_
              refine x_geti X (i := 52) fl_X12_111_13 (sdM_52 hω) (ks_52 _) rfl dX12_count_74 ?_
              exact x_retRI X R hf dX12_count_77
            · replace hf := (if_neg s6).symm.trans hf
              by_cases s7 : p0 = (6 : Int32)
              · replace hf := (if_pos s7).symm.trans hf
                refine x_tswI X (off := 77) 78 dX12_count_1 s7 (by decide) (by decide) (by decide) (by decide) ?_
                refine x_aload_n X dX12_count_78 0 rfl rfl ?_
                refine x_geti X (i := 52) fl_X12_41_13 (sdM_52 hω) (ks_52 _) rfl dX12_count_79 ?_
                exact x_retRI X R hf dX12_count_82
              · replace hf := (if_neg s7).symm.trans hf
                by_cases s8 : p0 = (7 : Int32)
                · replace hf := (if_pos s8).symm.trans hf
                  refine x_tswI X (off := 82) 83 dX12_count_1 s8 (by decide) (by decide) (by decide) (by decide) ?_
                  refine x_aload_n X dX12_count_83 0 rfl rfl ?_
                  refine x_geti X (i := 52) fl_X12_178_13 (sdM_52 hω) (ks_52 _) rfl dX12_count_84 ?_
                  exact x_retRI X R hf dX12_count_87
                · replace hf := (if_neg s8).symm.trans hf
                  refine x_tswO X 88 dX12_count_1 (by have := lv_neT s1 (a := 0) (by decide); have := lv_neT s2 (a := 1) (by decide); have := lv_neT s3 (a := 2) (by decide); have := lv_neT s4 (a := 3) (by decide); have := lv_neT s5 (a := 4) (by decide); have := lv_neT s6 (a := 5) (by decide); have := lv_neT s7 (a := 6) (by decide); have := lv_neT s8 (a := 7) (by decide); omega) (by decide) ?_
                  refine x_bipush X (v := -2) dX12_count_88 (by decide) ?_
                  exact x_retRI X R hf dX12_count_90
theorem mt_X12_count : MT yX12_count cX12_count 2 (some .int) "SignalBlindModel" 1 := ⟨(mT_7 70 rfl rfl), (mT_7 71 rfl rfl), (mT_1 10 rfl rfl), (mT_7 72 rfl rfl), by decide⟩

abbrev rm_X12_tape : Room := { frames := 2, cells := 0, slots := 0, locals := 44 }
def f_X12_tape_30 (h : hp) : Option (hp × Int32) := (some (h, (-2 : Int32)))
def f_X12_tape_69 : Nat → hp → Int32 → Int32 → Option (hp × Int32)
  | 0, _, _, _ => none
  | n + 1, h, a23, a24 => (if a24 < (60 : Int32) then
 (chk (((60 : Int32) * a23) + a24) 360
 (nm (tL h 89 ((((60 : Int32) * a23) + a24)).toNatClampNeg (0 : Int64)) fun h27 =>
 (nm (a24 + (1 : Int32)) fun v28 =>
 ((f_X12_tape_69 n) h27 a23 v28))))
 else
 (some (h, (1 : Int32))))
def f_X12_tape_65 (h : hp) (a18 : Int32) (a19 : Int32) (a20 : Int32) : Option (hp × Int32) := (chk a20 6
 (nm (tI h 88 (a20).toNatClampNeg a19) fun h22 =>
 (f_X12_tape_69 2000 h22 a18 (0 : Int32))))
def f_X12_tape_44 (h : hp) (a12 : Int32) (a13 : Int32) (a14 : Int32) : Option (hp × Int32) := (chk a12 6
 (nm (tI h 87 (a12).toNatClampNeg a13) fun h16 =>
 (if a13 < 0 then
 (f_X12_tape_65 h16 a12 (0 : Int32) a12)
 else
 (f_X12_tape_65 h16 a12 a14 a12))))
def f_X12_tape_33 (h : hp) (a8 : Int32) (a9 : Int32) (a10 : Int32) : Option (hp × Int32) := (if a9 < 0 then
 (f_X12_tape_44 h a8 a9 a10)
 else
 (if a10 < 0 then
 (some (h, (-14 : Int32)))
 else
 (f_X12_tape_44 h a8 a9 a10)))
def f_X12_tape (h : hp) (p0 : Int32) (p1 : Int32) (p2 : Int32) : Option (hp × Int32) := (bnr (f_X12_isTape h p0) fun r1 =>
 (if r1 = 0 then
 (some (h, (-1 : Int32)))
 else
 (bnr (f_X12_in h p1 (-1 : Int32) (4 : Int32)) fun r4 =>
 (if r4 = 0 then
 (f_X12_tape_30 h)
 else
 (if p1 < 0 then
 (f_X12_tape_33 h p0 p1 p2)
 else
 (if (60 : Int32) < p2 then
 (f_X12_tape_30 h)
 else
 (f_X12_tape_33 h p0 p1 p2)))))))
set_option maxRecDepth 100000 in
set_option maxHeartbeats 4000000 in
theorem k_X12_tape_30 {ω : XO} (hω : ω.2.2.2.1 = 0) {κ : XK} (X : XC ω rm_X12_tape 5 κ cX12_tape "SignalBlindModel") {L : List Nat} {q : Nat → Nat} {h' : hp} {r : Int32} (R : XRet ω rm_X12_tape κ (some .int) L q h' (some (.int r))) : ∀ (h : hp), f_X12_tape_30 h = some (h', r) → XG ω rm_X12_tape 5 κ L q h 0 0 30 [] [] := by
  intro h hf
  unfold f_X12_tape_30 at hf
  refine x_bipush X (v := -2) dX12_tape_30 (by decide) ?_
  exact x_retSI X R hf dX12_tape_32
set_option maxRecDepth 100000 in
set_option maxHeartbeats 4000000 in
theorem k_X12_tape_69 {ω : XO} (hω : ω.2.2.2.1 = 0) {κ : XK} (X : XC ω rm_X12_tape 5 κ cX12_tape "SignalBlindModel") {L : List Nat} {q : Nat → Nat} {h' : hp} {r : Int32} (R : XRet ω rm_X12_tape κ (some .int) L q h' (some (.int r))) : ∀ (n : Nat) (h : hp) (a23 : Int32) (a24 : Int32), f_X12_tape_69 n h a23 a24 = some (h', r) → XG ω rm_X12_tape 5 κ L q h 0 0 69 [(0, .ref (q 52)), (1, .int a23), (4, .int a24)] [] := by
  intro n
  induction n with
  | zero =>
    intro h a23 a24 hf
    have hf : (none : Option (hp × Int32)) = some (h', r) := hf
    cases hf
  | succ n ih =>
    intro h a23 a24 hf
    rw [f_X12_tape_69] at hf
    refine x_iload X dX12_tape_69 2 rfl ?_
    refine x_bipush X (v := 60) dX12_tape_71 (by decide) ?_
    refine x_icmp_ge X 95 dX12_tape_73 (by decide) (fun c25 => ?_) (fun c25 => ?_)
    · replace hf := (if_pos c25).symm.trans hf
      refine x_aload_n X dX12_tape_76 0 rfl rfl ?_
      refine x_getsj X (i := 52) 37 fl_X12_190_13 (sdM_52 hω) (ks_52 _) rfl (j := 89) rfl dX12_tape_77 ?_
      refine x_bipush X (v := 60) dX12_tape_80 (by decide) ?_
      refine x_iload_n X dX12_tape_82 1 rfl rfl ?_
      refine x_imul X dX12_tape_83 ?_
      refine x_iload X dX12_tape_84 2 rfl ?_
      refine x_iadd X dX12_tape_86 ?_
      refine x_lconst X (v := 0) dX12_tape_87 (by decide) ?_
      obtain ⟨z26, hf⟩ := chk_some hf
      refine x_last X (i := 89) (n := 360) (sdM_89 hω) (ks_89 _) z26 dX12_tape_88 ?_
      obtain ⟨h27, eh27, hf⟩ := nm_some hf
      refine x_nmh eh27 ?_
      obtain ⟨v28, ev28, hf⟩ := nm_some hf
      refine x_iincN X (v := 1) ev28 [(4, .int v28), (0, .ref (q 52)), (1, .int a23)] dX12_tape_89 2 rfl (by decide) (Nat.le_of_ble_eq_true rfl) rfl ?_
      refine x_goto X 69 dX12_tape_92 (by decide) ?_
      refine x_lv [1, 2, 0] rfl ?_
      exact ih h27 _ _ hf
    · replace hf := (if_neg c25).symm.trans hf
      refine x_iconst X (v := 1) dX12_tape_95 (by decide) ?_
      exact x_retSI X R hf dX12_tape_96
set_option maxRecDepth 100000 in
set_option maxHeartbeats 4000000 in
theorem k_X12_tape_65 {ω : XO} (hω : ω.2.2.2.1 = 0) {κ : XK} (X : XC ω rm_X12_tape 5 κ cX12_tape "SignalBlindModel") {L : List Nat} {q : Nat → Nat} {h' : hp} {r : Int32} (R : XRet ω rm_X12_tape κ (some .int) L q h' (some (.int r))) : ∀ (h : hp) (a18 : Int32) (a19 : Int32) (a20 : Int32), f_X12_tape_65 h a18 a19 a20 = some (h', r) → XG ω rm_X12_tape 5 κ L q h 0 0 65 [(0, .ref (q 52)), (1, .int a18)] [.int a19, .int a20, .ref (q 88)] := by
  intro h a18 a19 a20 hf
  unfold f_X12_tape_65 at hf
  obtain ⟨z21, hf⟩ := chk_some hf
  refine x_iast X (i := 88) (n := 6) (sdM_88 hω) (ks_88 _) z21 dX12_tape_65 ?_
  obtain ⟨h22, eh22, hf⟩ := nm_some hf
  refine x_nmh eh22 ?_
  refine x_iconst X (v := 0) dX12_tape_66 (by decide) ?_
  refine x_istore X [(4, .int (0 : Int32)), (0, .ref (q 52)), (1, .int a18)] dX12_tape_67 (Nat.le_of_ble_eq_true rfl) rfl ?_
  refine x_lv [1, 2, 0] rfl ?_
  exact k_X12_tape_69 hω X R _ h22 _ _ hf
set_option maxRecDepth 100000 in
set_option maxHeartbeats 4000000 in
theorem k_X12_tape_44 {ω : XO} (hω : ω.2.2.2.1 = 0) {κ : XK} (X : XC ω rm_X12_tape 5 κ cX12_tape "SignalBlindModel") {L : List Nat} {q : Nat → Nat} {h' : hp} {r : Int32} (R : XRet ω rm_X12_tape κ (some .int) L q h' (some (.int r))) : ∀ (h : hp) (a12 : Int32) (a13 : Int32) (a14 : Int32), f_X12_tape_44 h a12 a13 a14 = some (h', r) → XG ω rm_X12_tape 5 κ L q h 0 0 44 [(0, .ref (q 52)), (1, .int a12), (2, .int a13), (3, .int a14)] [] := by
  intro h a12 a13 a14 hf
  unfold f_X12_tape_44 at hf
  refine x_aload_n X dX12_tape_44 0 rfl rfl ?_
  refine x_getsj X (i := 52) 35 fl_X12_184_13 (sdM_52 hω) (ks_52 _) rfl (j := 87) rfl dX12_tape_45 ?_
  refine x_iload_n X dX12_tape_48 1 rfl rfl ?_
  refine x_iload_n X dX12_tape_49 2 rfl rfl ?_
  obtain ⟨z15, hf⟩ := chk_some hf
  refine x_iast X (i := 87) (n := 6) (sdM_87 hω) (ks_87 _) z15 dX12_tape_50 ?_
  obtain ⟨h16, eh16, hf⟩ := nm_some hf
  refine x_nmh eh16 ?_
  refine x_aload_n X dX12_tape_51 0 rfl rfl ?_
  refine x_getsj X (i := 52) 36 fl_X12_187_13 (sdM_52 hω) (ks_52 _) rfl (j := 88) rfl dX12_tape_52 ?_
  refine x_iload_n X dX12_tape_55 1 rfl rfl ?_
  refine x_iload_n X dX12_tape_56 2 rfl rfl ?_
  refine x_if_ge X 64 dX12_tape_57 (by decide) (fun c17 => ?_) (fun c17 => ?_)
  · replace hf := (if_pos c17).symm.trans hf
    refine x_iconst X (v := 0) dX12_tape_60 (by decide) ?_
    refine x_goto X 65 dX12_tape_61 (by decide) ?_
    refine x_lv [0, 1] rfl ?_
    exact k_X12_tape_65 hω X R h16 _ _ _ hf
  · replace hf := (if_neg c17).symm.trans hf
    refine x_iload_n X dX12_tape_64 3 rfl rfl ?_
    refine x_lv [0, 1] rfl ?_
    exact k_X12_tape_65 hω X R h16 _ _ _ hf
set_option maxRecDepth 100000 in
set_option maxHeartbeats 4000000 in
theorem k_X12_tape_33 {ω : XO} (hω : ω.2.2.2.1 = 0) {κ : XK} (X : XC ω rm_X12_tape 5 κ cX12_tape "SignalBlindModel") {L : List Nat} {q : Nat → Nat} {h' : hp} {r : Int32} (R : XRet ω rm_X12_tape κ (some .int) L q h' (some (.int r))) : ∀ (h : hp) (a8 : Int32) (a9 : Int32) (a10 : Int32), f_X12_tape_33 h a8 a9 a10 = some (h', r) → XG ω rm_X12_tape 5 κ L q h 0 0 33 [(0, .ref (q 52)), (1, .int a8), (2, .int a9), (3, .int a10)] [] := by
  intro h a8 a9 a10 hf
  unfold f_X12_tape_33 at hf
  refine x_iload_n X dX12_tape_33 2 rfl rfl ?_
  refine x_if_lt X 44 dX12_tape_34 (by decide) (fun c11 => ?_) (fun c11 => ?_)
  · replace hf := (if_pos c11).symm.trans hf
    refine x_lv [0, 1, 2, 3] rfl ?_
    exact k_X12_tape_44 hω X R h _ _ _ hf
  · replace hf := (if_neg c11).symm.trans hf
    refine x_iload_n X dX12_tape_37 3 rfl rfl ?_
    refine x_if_ge X 44 dX12_tape_38 (by decide) (fun c29 => ?_) (fun c29 => ?_)
    · replace hf := (if_pos c29).symm.trans hf
      refine x_bipush X (v := -14) dX12_tape_41 (by decide) ?_
      exact x_retSI X R hf dX12_tape_43
    · replace hf := (if_neg c29).symm.trans hf
      refine x_lv [0, 1, 2, 3] rfl ?_
      exact k_X12_tape_44 hω X R h _ _ _ hf
set_option maxRecDepth 100000 in
set_option maxHeartbeats 4000000 in
theorem k_X12_tape {ω : XO} (hω : ω.2.2.2.1 = 0) {L : List Nat} {q : Nat → Nat} {h h' : hp} {p0 : Int32} {p1 : Int32} {p2 : Int32} {r : Int32} (hf : f_X12_tape h p0 p1 p2 = some (h', r)) : XM ω yX12_tape cX12_tape 5 (some .int) rm_X12_tape L q h [.ref (q 52), .int p0, .int p1, .int p2] (some (.int r)) h' := by
  refine XM_intro [(0, .ref (q 52)), (1, .int p0), (2, .int p1), (3, .int p2)] "SignalBlindModel" (by decide) rfl rfl (Nat.le_of_ble_eq_true rfl) (fun κ X R => ?_)
  unfold f_X12_tape at hf
  refine x_aload_n X dX12_tape_0 0 rfl rfl ?_
  refine x_iload_n X dX12_tape_1 1 rfl rfl ?_
  obtain ⟨r1, g2, hf⟩ := bnr_some hf
  refine c_X12_330 X hω g2 (hR := ⟨Nat.le_of_ble_eq_true rfl, Nat.le_of_ble_eq_true rfl⟩) ⟨Nat.zero_le _, Nat.zero_le _⟩ (Nat.le_of_ble_eq_true rfl) dX12_tape_2 ?_
  refine x_if_ne X 10 dX12_tape_5 (by decide) (fun c3 => ?_) (fun c3 => ?_)
  · replace hf := (if_pos c3).symm.trans hf
    refine x_iconst X (v := -1) dX12_tape_8 (by decide) ?_
    exact x_retSI X R hf dX12_tape_9
  · replace hf := (if_neg c3).symm.trans hf
    refine x_aload_n X dX12_tape_10 0 rfl rfl ?_
    refine x_iload_n X dX12_tape_11 2 rfl rfl ?_
    refine x_iconst X (v := -1) dX12_tape_12 (by decide) ?_
    refine x_iconst X (v := 4) dX12_tape_13 (by decide) ?_
    obtain ⟨r4, g5, hf⟩ := bnr_some hf
    refine c_X12_201 X hω g5 (hR := ⟨Nat.le_of_ble_eq_true rfl, Nat.le_of_ble_eq_true rfl⟩) ⟨Nat.zero_le _, Nat.zero_le _⟩ (Nat.le_of_ble_eq_true rfl) dX12_tape_14 ?_
    refine x_if_eq X 30 dX12_tape_17 (by decide) (fun c6 => ?_) (fun c6 => ?_)
    · replace hf := (if_pos c6).symm.trans hf
      refine x_lv [] rfl ?_
      exact k_X12_tape_30 hω X R h hf
    · replace hf := (if_neg c6).symm.trans hf
      refine x_iload_n X dX12_tape_20 2 rfl rfl ?_
      refine x_if_lt X 33 dX12_tape_21 (by decide) (fun c7 => ?_) (fun c7 => ?_)
      · replace hf := (if_pos c7).symm.trans hf
        refine x_lv [0, 1, 2, 3] rfl ?_
        exact k_X12_tape_33 hω X R h _ _ _ hf
      · replace hf := (if_neg c7).symm.trans hf
        refine x_iload_n X dX12_tape_24 3 rfl rfl ?_
        refine x_bipush X (v := 60) dX12_tape_25 (by decide) ?_
        refine x_icmp_le X 33 dX12_tape_27 (by decide) (fun c30 => ?_) (fun c30 => ?_)
        · replace hf := (if_pos c30).symm.trans hf
          refine x_lv [] rfl ?_
          exact k_X12_tape_30 hω X R h hf
        · replace hf := (if_neg c30).symm.trans hf
          refine x_lv [0, 1, 2, 3] rfl ?_
          exact k_X12_tape_33 hω X R h _ _ _ hf
theorem mt_X12_tape : MT yX12_tape cX12_tape 5 (some .int) "SignalBlindModel" 3 := ⟨(mT_7 74 rfl rfl), (mT_7 75 rfl rfl), (mT_1 10 rfl rfl), (mT_7 76 rfl rfl), by decide⟩

abbrev rm_X12_narrow : Room := { frames := 0, cells := 0, slots := 0, locals := 0 }
def f_X12_narrow_54 (h : hp) (a2 : Int64) : Option Int64 := (some a2)
def f_X12_narrow (h : hp) (p0 : Int32) (p1 : Int64) : Option Int64 := (if p0 = 0 then
 (f_X12_narrow_54 h ((((((p1).toInt32)).toInt8.toInt32)).toInt64))
 else
 (if p0 = (1 : Int32) then
 (f_X12_narrow_54 h ((((((p1).toInt32)).toInt16.toInt32)).toInt64))
 else
 (if p0 = (2 : Int32) then
 (f_X12_narrow_54 h ((((p1).toInt32)).toInt64))
 else
 (if p0 = (4 : Int32) then
 (if (lg_cmp p1 (0 : Int64)) = 0 then
 (f_X12_narrow_54 h (0 : Int64))
 else
 (f_X12_narrow_54 h (1 : Int64)))
 else
 (f_X12_narrow_54 h p1)))))
set_option maxRecDepth 100000 in
set_option maxHeartbeats 4000000 in
theorem k_X12_narrow_54 {ω : XO} (hω : ω.2.2.2.1 = 0) {κ : XK} (X : XC ω rm_X12_narrow 4 κ cX12_narrow "SignalBlindModel") {L : List Nat} {q : Nat → Nat} {h : hp} {r : Int64} (R : XRet ω rm_X12_narrow κ (some .long) L q h (some (.long r))) : ∀ (a2 : Int64), f_X12_narrow_54 h a2 = some r → XG ω rm_X12_narrow 4 κ L q h 0 0 54 [] [.long a2] := by
  intro a2 hf
  unfold f_X12_narrow_54 at hf
  exact x_retRL X R hf dX12_narrow_54
set_option maxRecDepth 100000 in
set_option maxHeartbeats 4000000 in
theorem k_X12_narrow {ω : XO} (hω : ω.2.2.2.1 = 0) {L : List Nat} {q : Nat → Nat} {h : hp} {p0 : Int32} {p1 : Int64} {r : Int64} (hf : f_X12_narrow h p0 p1 = some r) : XM ω yX12_narrow cX12_narrow 4 (some .long) rm_X12_narrow L q h [.ref (q 52), .int p0, .long p1] (some (.long r)) h := by
  refine XM_intro [(0, .ref (q 52)), (1, .int p0), (2, .long p1)] "SignalBlindModel" (by decide) rfl rfl (Nat.le_of_ble_eq_true rfl) (fun κ X R => ?_)
  unfold f_X12_narrow at hf
  refine x_iload_n X dX12_narrow_0 1 rfl rfl ?_
  refine x_if_ne X 11 dX12_narrow_1 (by decide) (fun c1 => ?_) (fun c1 => ?_)
  · replace hf := (if_pos c1).symm.trans hf
    refine x_lload_n X dX12_narrow_4 2 rfl rfl ?_
    refine x_l2i X dX12_narrow_5 ?_
    refine x_i2b X dX12_narrow_6 ?_
    refine x_i2l X dX12_narrow_7 ?_
    refine x_goto X 54 dX12_narrow_8 (by decide) ?_
    refine x_lv [] rfl ?_
    exact k_X12_narrow_54 hω X R _ hf
  · replace hf := (if_neg c1).symm.trans hf
    refine x_iload_n X dX12_narrow_11 1 rfl rfl ?_
    refine x_iconst X (v := 1) dX12_narrow_12 (by decide) ?_
    refine x_icmp_ne X 23 dX12_narrow_13 (by decide) (fun c3 => ?_) (fun c3 => ?_)
    · replace hf := (if_pos c3).symm.trans hf
      refine x_lload_n X dX12_narrow_16 2 rfl rfl ?_
      refine x_l2i X dX12_narrow_17 ?_
      refine x_i2s X dX12_narrow_18 ?_
      refine x_i2l X dX12_narrow_19 ?_
      refine x_goto X 54 dX12_narrow_20 (by decide) ?_
      refine x_lv [] rfl ?_
      exact k_X12_narrow_54 hω X R _ hf
    · replace hf := (if_neg c3).symm.trans hf
      refine x_iload_n X dX12_narrow_23 1 rfl rfl ?_
      refine x_iconst X (v := 2) dX12_narrow_24 (by decide) ?_
      refine x_icmp_ne X 34 dX12_narrow_25 (by decide) (fun c4 => ?_) (fun c4 => ?_)
      · replace hf := (if_pos c4).symm.trans hf
        refine x_lload_n X dX12_narrow_28 2 rfl rfl ?_
        refine x_l2i X dX12_narrow_29 ?_
        refine x_i2l X dX12_narrow_30 ?_
        refine x_goto X 54 dX12_narrow_31 (by decide) ?_
        refine x_lv [] rfl ?_
        exact k_X12_narrow_54 hω X R _ hf
      · replace hf := (if_neg c4).symm.trans hf
        refine x_iload_n X dX12_narrow_34 1 rfl rfl ?_
        refine x_iconst X (v := 4) dX12_narrow_35 (by decide) ?_
        refine x_icmp_ne X 53 dX12_narrow_36 (by decide) (fun c5 => ?_) (fun c5 => ?_)
        · replace hf := (if_pos c5).symm.trans hf
          refine x_lload_n X dX12_narrow_39 2 rfl rfl ?_
          refine x_lconst X (v := 0) dX12_narrow_40 (by decide) ?_
          refine x_lcmp X dX12_narrow_41 ?_
          refine x_if_eq X 49 dX12_narrow_42 (by decide) (fun c6 => ?_) (fun c6 => ?_)
          · replace hf := (if_pos c6).symm.trans hf
            refine x_lconst X (v := 0) dX12_narrow_49 (by decide) ?_
            refine x_goto X 54 dX12_narrow_50 (by decide) ?_
            refine x_lv [] rfl ?_
            exact k_X12_narrow_54 hω X R _ hf
          · replace hf := (if_neg c6).symm.trans hf
            refine x_lconst X (v := 1) dX12_narrow_45 (by decide) ?_
            refine x_goto X 54 dX12_narrow_46 (by decide) ?_
            refine x_lv [] rfl ?_
            exact k_X12_narrow_54 hω X R _ hf
        · replace hf := (if_neg c5).symm.trans hf
          refine x_lload_n X dX12_narrow_53 2 rfl rfl ?_
          refine x_lv [] rfl ?_
          exact k_X12_narrow_54 hω X R _ hf
theorem mt_X12_narrow : MT yX12_narrow cX12_narrow 4 (some .long) "SignalBlindModel" 2 := ⟨(mT_7 83 rfl rfl), (mTp (q := (yX12_narrow, 61)) (by decide +kernel) rfl), (mT_1 10 rfl rfl), (mT_7 84 rfl rfl), by decide⟩
theorem c_X12_357 {ω : XO} {rm : Room} {nL : Nat} {κ : XK} {cc : ByteArray} (X : XC ω rm nL κ cc "SignalBlindModel") (hω : ω.2.2.2.1 = 0) {L : List Nat} {q : Nat → Nat} {h : hp} {cells slots pc : Nat} {lv : List (Nat × Value)} {rest : List Value} {p0 : Int32} {p1 : Int64} {r : Int64} (hf : f_X12_narrow h p0 p1 = some r) (hR : rm_X12_narrow.frames + 1 ≤ rm.frames ∧ 8 + (4 + 11) + rm_X12_narrow.locals ≤ rm.locals) (hcs : cells ≤ rm.cells ∧ slots ≤ rm.slots) (hroom : (rest.map fun v => v.category).sum ≤ 8) (hd : decode cc pc = .ok (.invokevirtual 357, 3)) (kk : XG ω rm nL κ L q h cells slots (pc + 3) lv (.long r :: rest)) : XG ω rm nL κ L q h cells slots pc lv (.long p1 :: .int p0 :: .ref (q 52) :: rest) := x_callV X [.int p0, .long p1] rest (k_X12_narrow hω hf) mt_X12_narrow (mT_7 81 rfl rfl) hR ⟨rfl, rfl⟩ hcs (sdM_52 hω) (ks_52 _) (by decide) rfl rfl hroom hd kk

abbrev rm_X12_item : Room := { frames := 2, cells := 0, slots := 0, locals := 44 }
def f_X12_item (h : hp) (p0 : Int32) (p1 : Int32) (p2 : Int64) : Option (hp × Int32) := (bnr (f_X12_isTape h p0) fun r1 =>
 (if r1 = 0 then
 (some (h, (-1 : Int32)))
 else
 (chk p0 6
 (if (aI h 87 (p0).toNatClampNeg) < 0 then
 (some (h, (-11 : Int32)))
 else
 (chk p0 6
 (bnr (f_X12_in h p1 (0 : Int32) ((aI h 88 (p0).toNatClampNeg) - (1 : Int32))) fun r7 =>
 (if r7 = 0 then
 (some (h, (-13 : Int32)))
 else
 (chk p0 6
 (bnr (f_X12_narrow h (aI h 87 (p0).toNatClampNeg) p2) fun r11 =>
 (chk (((60 : Int32) * p0) + p1) 360
 (nm (tL h 89 ((((60 : Int32) * p0) + p1)).toNatClampNeg r11) fun h14 =>
 (some (h14, (1 : Int32))))))))))))))
set_option maxRecDepth 100000 in
set_option maxHeartbeats 4000000 in
theorem k_X12_item {ω : XO} (hω : ω.2.2.2.1 = 0) {L : List Nat} {q : Nat → Nat} {h h' : hp} {p0 : Int32} {p1 : Int32} {p2 : Int64} {r : Int32} (hf : f_X12_item h p0 p1 p2 = some (h', r)) : XM ω yX12_item cX12_item 5 (some .int) rm_X12_item L q h [.ref (q 52), .int p0, .int p1, .long p2] (some (.int r)) h' := by
  refine XM_intro [(0, .ref (q 52)), (1, .int p0), (2, .int p1), (3, .long p2)] "SignalBlindModel" (by decide) rfl rfl (Nat.le_of_ble_eq_true rfl) (fun κ X R => ?_)
  unfold f_X12_item at hf
  refine x_aload_n X dX12_item_0 0 rfl rfl ?_
  refine x_iload_n X dX12_item_1 1 rfl rfl ?_
  obtain ⟨r1, g2, hf⟩ := bnr_some hf
  refine c_X12_330 X hω g2 (hR := ⟨Nat.le_of_ble_eq_true rfl, Nat.le_of_ble_eq_true rfl⟩) ⟨Nat.zero_le _, Nat.zero_le _⟩ (Nat.le_of_ble_eq_true rfl) dX12_item_2 ?_
  refine x_if_ne X 10 dX12_item_5 (by decide) (fun c3 => ?_) (fun c3 => ?_)
  · replace hf := (if_pos c3).symm.trans hf
    refine x_iconst X (v := -1) dX12_item_8 (by decide) ?_
    exact x_retSI X R hf dX12_item_9
  · replace hf := (if_neg c3).symm.trans hf
    refine x_aload_n X dX12_item_10 0 rfl rfl ?_
    refine x_getsj X (i := 52) 35 fl_X12_184_13 (sdM_52 hω) (ks_52 _) rfl (j := 87) rfl dX12_item_11 ?_
    refine x_iload_n X dX12_item_14 1 rfl rfl ?_
    obtain ⟨z4, hf⟩ := chk_some hf
    refine x_iald X (i := 87) (n := 6) (sdM_87 hω) (ks_87 _) z4 dX12_item_15 ?_
    refine x_if_ge X 22 dX12_item_16 (by decide) (fun c5 => ?_) (fun c5 => ?_)
    · replace hf := (if_pos c5).symm.trans hf
      refine x_bipush X (v := -11) dX12_item_19 (by decide) ?_
      exact x_retSI X R hf dX12_item_21
    · replace hf := (if_neg c5).symm.trans hf
      refine x_aload_n X dX12_item_22 0 rfl rfl ?_
      refine x_iload_n X dX12_item_23 2 rfl rfl ?_
      refine x_iconst X (v := 0) dX12_item_24 (by decide) ?_
      refine x_aload_n X dX12_item_25 0 rfl rfl ?_
      refine x_getsj X (i := 52) 36 fl_X12_187_13 (sdM_52 hω) (ks_52 _) rfl (j := 88) rfl dX12_item_26 ?_
      refine x_iload_n X dX12_item_29 1 rfl rfl ?_
      obtain ⟨z6, hf⟩ := chk_some hf
      refine x_iald X (i := 88) (n := 6) (sdM_88 hω) (ks_88 _) z6 dX12_item_30 ?_
      refine x_iconst X (v := 1) dX12_item_31 (by decide) ?_
      refine x_isub X dX12_item_32 ?_
      obtain ⟨r7, g8, hf⟩ := bnr_some hf
      refine c_X12_201 X hω g8 (hR := ⟨Nat.le_of_ble_eq_true rfl, Nat.le_of_ble_eq_true rfl⟩) ⟨Nat.zero_le _, Nat.zero_le _⟩ (Nat.le_of_ble_eq_true rfl) dX12_item_33 ?_
      refine x_if_ne X 42 dX12_item_36 (by decide) (fun c9 => ?_) (fun c9 => ?_)
      · replace hf := (if_pos c9).symm.trans hf
        refine x_bipush X (v := -13) dX12_item_39 (by decide) ?_
        exact x_retSI X R hf dX12_item_41
      · replace hf := (if_neg c9).symm.trans hf
        refine x_aload_n X dX12_item_42 0 rfl rfl ?_
        refine x_getsj X (i := 52) 37 fl_X12_190_13 (sdM_52 hω) (ks_52 _) rfl (j := 89) rfl dX12_item_43 ?_
        refine x_bipush X (v := 60) dX12_item_46 (by decide) ?_
        refine x_iload_n X dX12_item_48 1 rfl rfl ?_
        refine x_imul X dX12_item_49 ?_
        refine x_iload_n X dX12_item_50 2 rfl rfl ?_
        refine x_iadd X dX12_item_51 ?_
        refine x_aload_n X dX12_item_52 0 rfl rfl ?_
        refine x_aload_n X dX12_item_53 0 rfl rfl ?_
        refine x_getsj X (i := 52) 35 fl_X12_184_13 (sdM_52 hω) (ks_52 _) rfl (j := 87) rfl dX12_item_54 ?_
        refine x_iload_n X dX12_item_57 1 rfl rfl ?_
        obtain ⟨z10, hf⟩ := chk_some hf
        refine x_iald X (i := 87) (n := 6) (sdM_87 hω) (ks_87 _) z10 dX12_item_58 ?_
        refine x_lload_n X dX12_item_59 3 rfl rfl ?_
        obtain ⟨r11, g12, hf⟩ := bnr_some hf
        refine c_X12_357 X hω g12 (hR := ⟨Nat.le_of_ble_eq_true rfl, Nat.le_of_ble_eq_true rfl⟩) ⟨Nat.zero_le _, Nat.zero_le _⟩ (Nat.le_of_ble_eq_true rfl) dX12_item_60 ?_
        obtain ⟨z13, hf⟩ := chk_some hf
        refine x_last X (i := 89) (n := 360) (sdM_89 hω) (ks_89 _) z13 dX12_item_63 ?_
        obtain ⟨h14, eh14, hf⟩ := nm_some hf
        refine x_nmh eh14 ?_
        refine x_iconst X (v := 1) dX12_item_64 (by decide) ?_
        exact x_retSI X R hf dX12_item_65
theorem mt_X12_item : MT yX12_item cX12_item 5 (some .int) "SignalBlindModel" 3 := ⟨(mT_7 78 rfl rfl), (mT_7 79 rfl rfl), (mT_1 10 rfl rfl), (mT_7 80 rfl rfl), by decide⟩

abbrev rm_X12_read : Room := { frames := 2, cells := 0, slots := 0, locals := 44 }
def f_X12_read_51 (h : hp) (a4 : Int64) : Option Int64 := (some a4)
def f_X12_read_34 (h : hp) : Option Int64 := (f_X12_read_51 h (-9223372036854775808 : Int64))
def f_X12_read (h : hp) (p0 : Int32) (p1 : Int32) : Option Int64 := (bnr (f_X12_isTape h p0) fun r1 =>
 (if r1 = 0 then
 (f_X12_read_34 h)
 else
 (chk p0 6
 (if (aI h 87 (p0).toNatClampNeg) < 0 then
 (f_X12_read_34 h)
 else
 (chk p0 6
 (bnr (f_X12_in h p1 (0 : Int32) ((aI h 88 (p0).toNatClampNeg) - (1 : Int32))) fun r8 =>
 (if r8 = 0 then
 (f_X12_read_34 h)
 else
 (chk (((60 : Int32) * p0) + p1) 360
 (f_X12_read_51 h (aL h 89 ((((60 : Int32) * p0) + p1)).toNatClampNeg))))))))))
set_option maxRecDepth 100000 in
set_option maxHeartbeats 4000000 in
theorem k_X12_read_51 {ω : XO} (hω : ω.2.2.2.1 = 0) {κ : XK} (X : XC ω rm_X12_read 3 κ cX12_read "SignalBlindModel") {L : List Nat} {q : Nat → Nat} {h : hp} {r : Int64} (R : XRet ω rm_X12_read κ (some .long) L q h (some (.long r))) : ∀ (a4 : Int64), f_X12_read_51 h a4 = some r → XG ω rm_X12_read 3 κ L q h 0 0 51 [] [.long a4] := by
  intro a4 hf
  unfold f_X12_read_51 at hf
  exact x_retRL X R hf dX12_read_51
set_option maxRecDepth 100000 in
set_option maxHeartbeats 4000000 in
theorem k_X12_read_34 {ω : XO} (hω : ω.2.2.2.1 = 0) {κ : XK} (X : XC ω rm_X12_read 3 κ cX12_read "SignalBlindModel") {L : List Nat} {q : Nat → Nat} {h : hp} {r : Int64} (R : XRet ω rm_X12_read κ (some .long) L q h (some (.long r))) : f_X12_read_34 h = some r → XG ω rm_X12_read 3 κ L q h 0 0 34 [] [] := by
  intro  hf
  unfold f_X12_read_34 at hf
  refine x_ldc2 X (v := -9223372036854775808) (mT_6 220 rfl rfl) dX12_read_34 ?_
  refine x_goto X 51 dX12_read_37 (by decide) ?_
  refine x_lv [] rfl ?_
  exact k_X12_read_51 hω X R _ hf
set_option maxRecDepth 100000 in
set_option maxHeartbeats 4000000 in
theorem k_X12_read {ω : XO} (hω : ω.2.2.2.1 = 0) {L : List Nat} {q : Nat → Nat} {h : hp} {p0 : Int32} {p1 : Int32} {r : Int64} (hf : f_X12_read h p0 p1 = some r) : XM ω yX12_read cX12_read 3 (some .long) rm_X12_read L q h [.ref (q 52), .int p0, .int p1] (some (.long r)) h := by
  refine XM_intro [(0, .ref (q 52)), (1, .int p0), (2, .int p1)] "SignalBlindModel" (by decide) rfl rfl (Nat.le_of_ble_eq_true rfl) (fun κ X R => ?_)
  unfold f_X12_read at hf
  refine x_aload_n X dX12_read_0 0 rfl rfl ?_
  refine x_iload_n X dX12_read_1 1 rfl rfl ?_
  obtain ⟨r1, g2, hf⟩ := bnr_some hf
  refine c_X12_330 X hω g2 (hR := ⟨Nat.le_of_ble_eq_true rfl, Nat.le_of_ble_eq_true rfl⟩) ⟨Nat.zero_le _, Nat.zero_le _⟩ (Nat.le_of_ble_eq_true rfl) dX12_read_2 ?_
  refine x_if_eq X 34 dX12_read_5 (by decide) (fun c3 => ?_) (fun c3 => ?_)
  · replace hf := (if_pos c3).symm.trans hf
    refine x_lv [] rfl ?_
    exact k_X12_read_34 hω X R  hf
  · replace hf := (if_neg c3).symm.trans hf
    refine x_aload_n X dX12_read_8 0 rfl rfl ?_
    refine x_getsj X (i := 52) 35 fl_X12_184_13 (sdM_52 hω) (ks_52 _) rfl (j := 87) rfl dX12_read_9 ?_
    refine x_iload_n X dX12_read_12 1 rfl rfl ?_
    obtain ⟨z5, hf⟩ := chk_some hf
    refine x_iald X (i := 87) (n := 6) (sdM_87 hω) (ks_87 _) z5 dX12_read_13 ?_
    refine x_if_lt X 34 dX12_read_14 (by decide) (fun c6 => ?_) (fun c6 => ?_)
    · replace hf := (if_pos c6).symm.trans hf
      refine x_lv [] rfl ?_
      exact k_X12_read_34 hω X R  hf
    · replace hf := (if_neg c6).symm.trans hf
      refine x_aload_n X dX12_read_17 0 rfl rfl ?_
      refine x_iload_n X dX12_read_18 2 rfl rfl ?_
      refine x_iconst X (v := 0) dX12_read_19 (by decide) ?_
      refine x_aload_n X dX12_read_20 0 rfl rfl ?_
      refine x_getsj X (i := 52) 36 fl_X12_187_13 (sdM_52 hω) (ks_52 _) rfl (j := 88) rfl dX12_read_21 ?_
      refine x_iload_n X dX12_read_24 1 rfl rfl ?_
      obtain ⟨z7, hf⟩ := chk_some hf
      refine x_iald X (i := 88) (n := 6) (sdM_88 hω) (ks_88 _) z7 dX12_read_25 ?_
      refine x_iconst X (v := 1) dX12_read_26 (by decide) ?_
      refine x_isub X dX12_read_27 ?_
      obtain ⟨r8, g9, hf⟩ := bnr_some hf
      refine c_X12_201 X hω g9 (hR := ⟨Nat.le_of_ble_eq_true rfl, Nat.le_of_ble_eq_true rfl⟩) ⟨Nat.zero_le _, Nat.zero_le _⟩ (Nat.le_of_ble_eq_true rfl) dX12_read_28 ?_
      refine x_if_ne X 40 dX12_read_31 (by decide) (fun c10 => ?_) (fun c10 => ?_)
      · replace hf := (if_pos c10).symm.trans hf
        refine x_lv [] rfl ?_
        exact k_X12_read_34 hω X R  hf
      · replace hf := (if_neg c10).symm.trans hf
        refine x_aload_n X dX12_read_40 0 rfl rfl ?_
        refine x_getsj X (i := 52) 37 fl_X12_190_13 (sdM_52 hω) (ks_52 _) rfl (j := 89) rfl dX12_read_41 ?_
        refine x_bipush X (v := 60) dX12_read_44 (by decide) ?_
        refine x_iload_n X dX12_read_46 1 rfl rfl ?_
        refine x_imul X dX12_read_47 ?_
        refine x_iload_n X dX12_read_48 2 rfl rfl ?_
        refine x_iadd X dX12_read_49 ?_
        obtain ⟨z11, hf⟩ := chk_some hf
        refine x_lald X (i := 89) (n := 360) (sdM_89 hω) (ks_89 _) z11 dX12_read_50 ?_
        refine x_lv [] rfl ?_
        exact k_X12_read_51 hω X R _ hf
theorem mt_X12_read : MT yX12_read cX12_read 3 (some .long) "SignalBlindModel" 2 := ⟨(mT_7 86 rfl rfl), (mT_7 87 rfl rfl), (mT_1 10 rfl rfl), (mT_7 88 rfl rfl), by decide⟩

abbrev rm_X12_shift : Room := { frames := 2, cells := 0, slots := 0, locals := 44 }
def f_X12_shift_16 (h : hp) : Option (hp × Int32) := (some (h, (-1 : Int32)))
def f_X12_shift_36 (h : hp) : Option (hp × Int32) := (some (h, (-11 : Int32)))
def f_X12_shift_98 (h : hp) : Option (hp × Int32) := (some (h, (-13 : Int32)))
def f_X12_shift_141 : Nat → hp → Int32 → Int32 → Int32 → Int32 → Option (hp × Int32)
  | 0, _, _, _, _, _ => none
  | n + 1, h, a32, a33, a34, a35 => (if a35 < a34 then
 (chk a35 60
 (chk ((((60 : Int32) * a32) + a33) + a35) 360
 (nm (tL h 89 (((((60 : Int32) * a32) + a33) + a35)).toNatClampNeg (aL h 90 (a35).toNatClampNeg)) fun h39 =>
 (nm (a35 + (1 : Int32)) fun v40 =>
 ((f_X12_shift_141 n) h39 a32 a33 a34 v40)))))
 else
 (some (h, a34)))
def f_X12_shift_104 : Nat → hp → Int32 → Int32 → Int32 → Int32 → Int32 → Int32 → Option (hp × Int32)
  | 0, _, _, _, _, _, _, _ => none
  | n + 1, h, a21, a22, a23, a24, a25, a26 => (if a26 < a25 then
 (chk ((((60 : Int32) * a21) + a22) + a26) 360
 (chk a26 60
 (nm (tL h 90 (a26).toNatClampNeg (aL h 89 (((((60 : Int32) * a21) + a22) + a26)).toNatClampNeg)) fun h30 =>
 (nm (a26 + (1 : Int32)) fun v31 =>
 ((f_X12_shift_104 n) h30 a21 a22 a23 a24 a25 v31)))))
 else
 (f_X12_shift_141 2000 h a23 a24 a25 (0 : Int32)))
def f_X12_shift (h : hp) (p0 : Int32) (p1 : Int32) (p2 : Int32) (p3 : Int32) (p4 : Int32) : Option (hp × Int32) := (bnr (f_X12_isTape h p0) fun r1 =>
 (if r1 = 0 then
 (f_X12_shift_16 h)
 else
 (bnr (f_X12_isTape h p2) fun r4 =>
 (if r4 = 0 then
 (f_X12_shift_16 h)
 else
 (chk p0 6
 (if (aI h 87 (p0).toNatClampNeg) < 0 then
 (f_X12_shift_36 h)
 else
 (chk p2 6
 (if (aI h 87 (p2).toNatClampNeg) < 0 then
 (f_X12_shift_36 h)
 else
 (chk p0 6
 (chk p2 6
 (if (aI h 87 (p0).toNatClampNeg) = (aI h 87 (p2).toNatClampNeg) then
 (if p4 < 0 then
 (f_X12_shift_98 h)
 else
 (if p1 < 0 then
 (f_X12_shift_98 h)
 else
 (if p3 < 0 then
 (f_X12_shift_98 h)
 else
 (chk p0 6
 (if ((aI h 88 (p0).toNatClampNeg) - p4) < p1 then
 (f_X12_shift_98 h)
 else
 (chk p2 6
 (if ((aI h 88 (p2).toNatClampNeg) - p4) < p3 then
 (f_X12_shift_98 h)
 else
 (f_X12_shift_104 2000 h p0 p1 p2 p3 p4 (0 : Int32)))))))))
 else
 (some (h, (-12 : Int32))))))))))))))
set_option maxRecDepth 100000 in
set_option maxHeartbeats 4000000 in
theorem k_X12_shift_16 {ω : XO} (hω : ω.2.2.2.1 = 0) {κ : XK} (X : XC ω rm_X12_shift 7 κ cX12_shift "SignalBlindModel") {L : List Nat} {q : Nat → Nat} {h' : hp} {r : Int32} (R : XRet ω rm_X12_shift κ (some .int) L q h' (some (.int r))) : ∀ (h : hp), f_X12_shift_16 h = some (h', r) → XG ω rm_X12_shift 7 κ L q h 0 0 16 [] [] := by
  intro h hf
  unfold f_X12_shift_16 at hf
  refine x_iconst X (v := -1) dX12_shift_16 (by decide) ?_
  exact x_retSI X R hf dX12_shift_17
set_option maxRecDepth 100000 in
set_option maxHeartbeats 4000000 in
theorem k_X12_shift_36 {ω : XO} (hω : ω.2.2.2.1 = 0) {κ : XK} (X : XC ω rm_X12_shift 7 κ cX12_shift "SignalBlindModel") {L : List Nat} {q : Nat → Nat} {h' : hp} {r : Int32} (R : XRet ω rm_X12_shift κ (some .int) L q h' (some (.int r))) : ∀ (h : hp), f_X12_shift_36 h = some (h', r) → XG ω rm_X12_shift 7 κ L q h 0 0 36 [] [] := by
  intro h hf
  unfold f_X12_shift_36 at hf
  refine x_bipush X (v := -11) dX12_shift_36 (by decide) ?_
  exact x_retSI X R hf dX12_shift_38
set_option maxRecDepth 100000 in
set_option maxHeartbeats 4000000 in
theorem k_X12_shift_98 {ω : XO} (hω : ω.2.2.2.1 = 0) {κ : XK} (X : XC ω rm_X12_shift 7 κ cX12_shift "SignalBlindModel") {L : List Nat} {q : Nat → Nat} {h' : hp} {r : Int32} (R : XRet ω rm_X12_shift κ (some .int) L q h' (some (.int r))) : ∀ (h : hp), f_X12_shift_98 h = some (h', r) → XG ω rm_X12_shift 7 κ L q h 0 0 98 [] [] := by
  intro h hf
  unfold f_X12_shift_98 at hf
  refine x_bipush X (v := -13) dX12_shift_98 (by decide) ?_
  exact x_retSI X R hf dX12_shift_100
set_option maxRecDepth 100000 in
set_option maxHeartbeats 4000000 in
theorem k_X12_shift_141 {ω : XO} (hω : ω.2.2.2.1 = 0) {κ : XK} (X : XC ω rm_X12_shift 7 κ cX12_shift "SignalBlindModel") {L : List Nat} {q : Nat → Nat} {h' : hp} {r : Int32} (R : XRet ω rm_X12_shift κ (some .int) L q h' (some (.int r))) : ∀ (n : Nat) (h : hp) (a32 : Int32) (a33 : Int32) (a34 : Int32) (a35 : Int32), f_X12_shift_141 n h a32 a33 a34 a35 = some (h', r) → XG ω rm_X12_shift 7 κ L q h 0 0 141 [(0, .ref (q 52)), (3, .int a32), (4, .int a33), (5, .int a34), (6, .int a35)] [] := by
  intro n
  induction n with
  | zero =>
    intro h a32 a33 a34 a35 hf
    have hf : (none : Option (hp × Int32)) = some (h', r) := hf
    cases hf
  | succ n ih =>
    intro h a32 a33 a34 a35 hf
    rw [f_X12_shift_141] at hf
    refine x_iload X dX12_shift_141 4 rfl ?_
    refine x_iload X dX12_shift_143 3 rfl ?_
    refine x_icmp_ge X 176 dX12_shift_145 (by decide) (fun c36 => ?_) (fun c36 => ?_)
    · replace hf := (if_pos c36).symm.trans hf
      refine x_aload_n X dX12_shift_148 0 rfl rfl ?_
      refine x_getsj X (i := 52) 37 fl_X12_190_13 (sdM_52 hω) (ks_52 _) rfl (j := 89) rfl dX12_shift_149 ?_
      refine x_bipush X (v := 60) dX12_shift_152 (by decide) ?_
      refine x_iload_n X dX12_shift_154 1 rfl rfl ?_
      refine x_imul X dX12_shift_155 ?_
      refine x_iload X dX12_shift_156 2 rfl ?_
      refine x_iadd X dX12_shift_158 ?_
      refine x_iload X dX12_shift_159 4 rfl ?_
      refine x_iadd X dX12_shift_161 ?_
      refine x_aload_n X dX12_shift_162 0 rfl rfl ?_
      refine x_getsj X (i := 52) 38 fl_X12_194_13 (sdM_52 hω) (ks_52 _) rfl (j := 90) rfl dX12_shift_163 ?_
      refine x_iload X dX12_shift_166 4 rfl ?_
      obtain ⟨z37, hf⟩ := chk_some hf
      refine x_lald X (i := 90) (n := 60) (sdM_90 hω) (ks_90 _) z37 dX12_shift_168 ?_
      obtain ⟨z38, hf⟩ := chk_some hf
      refine x_last X (i := 89) (n := 360) (sdM_89 hω) (ks_89 _) z38 dX12_shift_169 ?_
      obtain ⟨h39, eh39, hf⟩ := nm_some hf
      refine x_nmh eh39 ?_
      obtain ⟨v40, ev40, hf⟩ := nm_some hf
      refine x_iincN X (v := 1) ev40 [(6, .int v40), (0, .ref (q 52)), (3, .int a32), (4, .int a33), (5, .int a34)] dX12_shift_170 4 rfl (by decide) (Nat.le_of_ble_eq_true rfl) rfl ?_
      refine x_goto X 141 dX12_shift_173 (by decide) ?_
      refine x_lv [1, 2, 3, 4, 0] rfl ?_
      exact ih h39 _ _ _ _ hf
    · replace hf := (if_neg c36).symm.trans hf
      refine x_iload X dX12_shift_176 3 rfl ?_
      exact x_retSI X R hf dX12_shift_178
set_option maxRecDepth 100000 in
set_option maxHeartbeats 4000000 in
theorem k_X12_shift_104 {ω : XO} (hω : ω.2.2.2.1 = 0) {κ : XK} (X : XC ω rm_X12_shift 7 κ cX12_shift "SignalBlindModel") {L : List Nat} {q : Nat → Nat} {h' : hp} {r : Int32} (R : XRet ω rm_X12_shift κ (some .int) L q h' (some (.int r))) : ∀ (n : Nat) (h : hp) (a21 : Int32) (a22 : Int32) (a23 : Int32) (a24 : Int32) (a25 : Int32) (a26 : Int32), f_X12_shift_104 n h a21 a22 a23 a24 a25 a26 = some (h', r) → XG ω rm_X12_shift 7 κ L q h 0 0 104 [(0, .ref (q 52)), (1, .int a21), (2, .int a22), (3, .int a23), (4, .int a24), (5, .int a25), (6, .int a26)] [] := by
  intro n
  induction n with
  | zero =>
    intro h a21 a22 a23 a24 a25 a26 hf
    have hf : (none : Option (hp × Int32)) = some (h', r) := hf
    cases hf
  | succ n ih =>
    intro h a21 a22 a23 a24 a25 a26 hf
    rw [f_X12_shift_104] at hf
    refine x_iload X dX12_shift_104 6 rfl ?_
    refine x_iload X dX12_shift_106 5 rfl ?_
    refine x_icmp_ge X 138 dX12_shift_108 (by decide) (fun c27 => ?_) (fun c27 => ?_)
    · replace hf := (if_pos c27).symm.trans hf
      refine x_aload_n X dX12_shift_111 0 rfl rfl ?_
      refine x_getsj X (i := 52) 38 fl_X12_194_13 (sdM_52 hω) (ks_52 _) rfl (j := 90) rfl dX12_shift_112 ?_
      refine x_iload X dX12_shift_115 6 rfl ?_
      refine x_aload_n X dX12_shift_117 0 rfl rfl ?_
      refine x_getsj X (i := 52) 37 fl_X12_190_13 (sdM_52 hω) (ks_52 _) rfl (j := 89) rfl dX12_shift_118 ?_
      refine x_bipush X (v := 60) dX12_shift_121 (by decide) ?_
      refine x_iload_n X dX12_shift_123 1 rfl rfl ?_
      refine x_imul X dX12_shift_124 ?_
      refine x_iload_n X dX12_shift_125 2 rfl rfl ?_
      refine x_iadd X dX12_shift_126 ?_
      refine x_iload X dX12_shift_127 6 rfl ?_
      refine x_iadd X dX12_shift_129 ?_
      obtain ⟨z28, hf⟩ := chk_some hf
      refine x_lald X (i := 89) (n := 360) (sdM_89 hω) (ks_89 _) z28 dX12_shift_130 ?_
      obtain ⟨z29, hf⟩ := chk_some hf
      refine x_last X (i := 90) (n := 60) (sdM_90 hω) (ks_90 _) z29 dX12_shift_131 ?_
      obtain ⟨h30, eh30, hf⟩ := nm_some hf
      refine x_nmh eh30 ?_
      obtain ⟨v31, ev31, hf⟩ := nm_some hf
      refine x_iincN X (v := 1) ev31 [(6, .int v31), (0, .ref (q 52)), (1, .int a21), (2, .int a22), (3, .int a23), (4, .int a24), (5, .int a25)] dX12_shift_132 6 rfl (by decide) (Nat.le_of_ble_eq_true rfl) rfl ?_
      refine x_goto X 104 dX12_shift_135 (by decide) ?_
      refine x_lv [1, 2, 3, 4, 5, 6, 0] rfl ?_
      exact ih h30 _ _ _ _ _ _ hf
    · replace hf := (if_neg c27).symm.trans hf
      refine x_iconst X (v := 0) dX12_shift_138 (by decide) ?_
      refine x_istore X [(6, .int (0 : Int32)), (0, .ref (q 52)), (1, .int a21), (2, .int a22), (3, .int a23), (4, .int a24), (5, .int a25)] dX12_shift_139 (Nat.le_of_ble_eq_true rfl) rfl ?_
      refine x_lv [1, 4, 5, 6, 0] rfl ?_
      exact k_X12_shift_141 hω X R _ h _ _ _ _ hf
set_option maxRecDepth 100000 in
set_option maxHeartbeats 4000000 in
theorem k_X12_shift {ω : XO} (hω : ω.2.2.2.1 = 0) {L : List Nat} {q : Nat → Nat} {h h' : hp} {p0 : Int32} {p1 : Int32} {p2 : Int32} {p3 : Int32} {p4 : Int32} {r : Int32} (hf : f_X12_shift h p0 p1 p2 p3 p4 = some (h', r)) : XM ω yX12_shift cX12_shift 7 (some .int) rm_X12_shift L q h [.ref (q 52), .int p0, .int p1, .int p2, .int p3, .int p4] (some (.int r)) h' := by
  refine XM_intro [(0, .ref (q 52)), (1, .int p0), (2, .int p1), (3, .int p2), (4, .int p3), (5, .int p4)] "SignalBlindModel" (by decide) rfl rfl (Nat.le_of_ble_eq_true rfl) (fun κ X R => ?_)
  unfold f_X12_shift at hf
  refine x_aload_n X dX12_shift_0 0 rfl rfl ?_
  refine x_iload_n X dX12_shift_1 1 rfl rfl ?_
  obtain ⟨r1, g2, hf⟩ := bnr_some hf
  refine c_X12_330 X hω g2 (hR := ⟨Nat.le_of_ble_eq_true rfl, Nat.le_of_ble_eq_true rfl⟩) ⟨Nat.zero_le _, Nat.zero_le _⟩ (Nat.le_of_ble_eq_true rfl) dX12_shift_2 ?_
  refine x_if_eq X 16 dX12_shift_5 (by decide) (fun c3 => ?_) (fun c3 => ?_)
  · replace hf := (if_pos c3).symm.trans hf
    refine x_lv [] rfl ?_
    exact k_X12_shift_16 hω X R h hf
  · replace hf := (if_neg c3).symm.trans hf
    refine x_aload_n X dX12_shift_8 0 rfl rfl ?_
    refine x_iload_n X dX12_shift_9 3 rfl rfl ?_
    obtain ⟨r4, g5, hf⟩ := bnr_some hf
    refine c_X12_330 X hω g5 (hR := ⟨Nat.le_of_ble_eq_true rfl, Nat.le_of_ble_eq_true rfl⟩) ⟨Nat.zero_le _, Nat.zero_le _⟩ (Nat.le_of_ble_eq_true rfl) dX12_shift_10 ?_
    refine x_if_ne X 18 dX12_shift_13 (by decide) (fun c6 => ?_) (fun c6 => ?_)
    · replace hf := (if_pos c6).symm.trans hf
      refine x_lv [] rfl ?_
      exact k_X12_shift_16 hω X R h hf
    · replace hf := (if_neg c6).symm.trans hf
      refine x_aload_n X dX12_shift_18 0 rfl rfl ?_
      refine x_getsj X (i := 52) 35 fl_X12_184_13 (sdM_52 hω) (ks_52 _) rfl (j := 87) rfl dX12_shift_19 ?_
      refine x_iload_n X dX12_shift_22 1 rfl rfl ?_
      obtain ⟨z7, hf⟩ := chk_some hf
      refine x_iald X (i := 87) (n := 6) (sdM_87 hω) (ks_87 _) z7 dX12_shift_23 ?_
      refine x_if_lt X 36 dX12_shift_24 (by decide) (fun c8 => ?_) (fun c8 => ?_)
      · replace hf := (if_pos c8).symm.trans hf
        refine x_lv [] rfl ?_
        exact k_X12_shift_36 hω X R h hf
      · replace hf := (if_neg c8).symm.trans hf
        refine x_aload_n X dX12_shift_27 0 rfl rfl ?_
        refine x_getsj X (i := 52) 35 fl_X12_184_13 (sdM_52 hω) (ks_52 _) rfl (j := 87) rfl dX12_shift_28 ?_
        refine x_iload_n X dX12_shift_31 3 rfl rfl ?_
        obtain ⟨z9, hf⟩ := chk_some hf
        refine x_iald X (i := 87) (n := 6) (sdM_87 hω) (ks_87 _) z9 dX12_shift_32 ?_
        refine x_if_ge X 39 dX12_shift_33 (by decide) (fun c10 => ?_) (fun c10 => ?_)
        · replace hf := (if_pos c10).symm.trans hf
          refine x_lv [] rfl ?_
          exact k_X12_shift_36 hω X R h hf
        · replace hf := (if_neg c10).symm.trans hf
          refine x_aload_n X dX12_shift_39 0 rfl rfl ?_
          refine x_getsj X (i := 52) 35 fl_X12_184_13 (sdM_52 hω) (ks_52 _) rfl (j := 87) rfl dX12_shift_40 ?_
          refine x_iload_n X dX12_shift_43 1 rfl rfl ?_
          obtain ⟨z11, hf⟩ := chk_some hf
          refine x_iald X (i := 87) (n := 6) (sdM_87 hω) (ks_87 _) z11 dX12_shift_44 ?_
          refine x_aload_n X dX12_shift_45 0 rfl rfl ?_
          refine x_getsj X (i := 52) 35 fl_X12_184_13 (sdM_52 hω) (ks_52 _) rfl (j := 87) rfl dX12_shift_46 ?_
          refine x_iload_n X dX12_shift_49 3 rfl rfl ?_
          obtain ⟨z12, hf⟩ := chk_some hf
          refine x_iald X (i := 87) (n := 6) (sdM_87 hω) (ks_87 _) z12 dX12_shift_50 ?_
          refine x_icmp_eq X 57 dX12_shift_51 (by decide) (fun c13 => ?_) (fun c13 => ?_)
          · replace hf := (if_pos c13).symm.trans hf
            refine x_iload X dX12_shift_57 5 rfl ?_
            refine x_if_lt X 98 dX12_shift_59 (by decide) (fun c14 => ?_) (fun c14 => ?_)
            · replace hf := (if_pos c14).symm.trans hf
              refine x_lv [] rfl ?_
              exact k_X12_shift_98 hω X R h hf
            · replace hf := (if_neg c14).symm.trans hf
              refine x_iload_n X dX12_shift_62 2 rfl rfl ?_
              refine x_if_lt X 98 dX12_shift_63 (by decide) (fun c15 => ?_) (fun c15 => ?_)
              · replace hf := (if_pos c15).symm.trans hf
                refine x_lv [] rfl ?_
                exact k_X12_shift_98 hω X R h hf
              · replace hf := (if_neg c15).symm.trans hf
                refine x_iload X dX12_shift_66 4 rfl ?_
                refine x_if_lt X 98 dX12_shift_68 (by decide) (fun c16 => ?_) (fun c16 => ?_)
                · replace hf := (if_pos c16).symm.trans hf
                  refine x_lv [] rfl ?_
                  exact k_X12_shift_98 hω X R h hf
                · replace hf := (if_neg c16).symm.trans hf
                  refine x_iload_n X dX12_shift_71 2 rfl rfl ?_
                  refine x_aload_n X dX12_shift_72 0 rfl rfl ?_
                  refine x_getsj X (i := 52) 36 fl_X12_187_13 (sdM_52 hω) (ks_52 _) rfl (j := 88) rfl dX12_shift_73 ?_
                  refine x_iload_n X dX12_shift_76 1 rfl rfl ?_
                  obtain ⟨z17, hf⟩ := chk_some hf
                  refine x_iald X (i := 88) (n := 6) (sdM_88 hω) (ks_88 _) z17 dX12_shift_77 ?_
                  refine x_iload X dX12_shift_78 5 rfl ?_
                  refine x_isub X dX12_shift_80 ?_
                  refine x_icmp_gt X 98 dX12_shift_81 (by decide) (fun c18 => ?_) (fun c18 => ?_)
                  · replace hf := (if_pos c18).symm.trans hf
                    refine x_lv [] rfl ?_
                    exact k_X12_shift_98 hω X R h hf
                  · replace hf := (if_neg c18).symm.trans hf
                    refine x_iload X dX12_shift_84 4 rfl ?_
                    refine x_aload_n X dX12_shift_86 0 rfl rfl ?_
                    refine x_getsj X (i := 52) 36 fl_X12_187_13 (sdM_52 hω) (ks_52 _) rfl (j := 88) rfl dX12_shift_87 ?_
                    refine x_iload_n X dX12_shift_90 3 rfl rfl ?_
                    obtain ⟨z19, hf⟩ := chk_some hf
                    refine x_iald X (i := 88) (n := 6) (sdM_88 hω) (ks_88 _) z19 dX12_shift_91 ?_
                    refine x_iload X dX12_shift_92 5 rfl ?_
                    refine x_isub X dX12_shift_94 ?_
                    refine x_icmp_le X 101 dX12_shift_95 (by decide) (fun c20 => ?_) (fun c20 => ?_)
                    · replace hf := (if_pos c20).symm.trans hf
                      refine x_lv [] rfl ?_
                      exact k_X12_shift_98 hω X R h hf
                    · replace hf := (if_neg c20).symm.trans hf
                      refine x_iconst X (v := 0) dX12_shift_101 (by decide) ?_
                      refine x_istore X [(6, .int (0 : Int32)), (0, .ref (q 52)), (1, .int p0), (2, .int p1), (3, .int p2), (4, .int p3), (5, .int p4)] dX12_shift_102 (Nat.le_of_ble_eq_true rfl) rfl ?_
                      refine x_lv [1, 2, 3, 4, 5, 6, 0] rfl ?_
                      exact k_X12_shift_104 hω X R _ h _ _ _ _ _ _ hf
          · replace hf := (if_neg c13).symm.trans hf
            refine x_bipush X (v := -12) dX12_shift_54 (by decide) ?_
            exact x_retSI X R hf dX12_shift_56
theorem mt_X12_shift : MT yX12_shift cX12_shift 7 (some .int) "SignalBlindModel" 5 := ⟨(mT_7 90 rfl rfl), (mT_7 91 rfl rfl), (mT_1 10 rfl rfl), (mT_7 92 rfl rfl), by decide⟩
