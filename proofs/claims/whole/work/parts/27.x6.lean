abbrev rm_X11_count : Room := { frames := 2, cells := 0, slots := 0, locals := 40 }
def f_X11_count (h : hp) (p0 : Int32) : Option Int32 := (if p0 = (0 : Int32) then
 (some (hI h 1 2))
 else
 (if p0 = (1 : Int32) then
 (some (hI h 2 1))
 else
 (if p0 = (2 : Int32) then
 (some (hI h 0 5))
 else
 (if p0 = (3 : Int32) then
 (some (hI h 7 1))
 else
 (if p0 = (4 : Int32) then
 (some (hI h 9 1))
 else
 (if p0 = (5 : Int32) then
 (some (hI h 11 1))
 else
 (if p0 = (6 : Int32) then
 (some (hI h 25 1))
 else
 (if p0 = (7 : Int32) then
 (bnr (f_J4_length_8abf5 h 33) fun r9 =>
 (some r9))
 else
 (some (-2 : Int32))))))))))
set_option maxRecDepth 100000 in
set_option maxHeartbeats 4000000 in
theorem k_X11_count {ω : XO} (hω : ω.2.2.2.1 = 1) {L : List Nat} {q : Nat → Nat} {h : hp} {p0 : Int32} {r : Int32} (hf : f_X11_count h p0 = some r) : XM ω yX11_count cX11_count 2 (some .int) rm_X11_count L q h [.ref (q 0), .int p0] (some (.int r)) h := by
  refine XM_intro [(0, .ref (q 0)), (1, .int p0)] "SignalBlind" (by decide) rfl rfl (Nat.le_of_ble_eq_true rfl) (fun κ X R => ?_)
  unfold f_X11_count at hf
  refine x_iload_n X dX11_count_0 1 rfl rfl ?_
  by_cases s1 : p0 = (0 : Int32)
  · replace hf := (if_pos s1).symm.trans hf
    refine x_tswI X (off := 47) 48 dX11_count_1 s1 (by decide) (by decide) (by decide) (by decide) ?_
    refine x_aload_n X dX11_count_48 0 rfl rfl ?_
    refine x_getsj X (i := 0) 1 fl_X11_14_12 (sdX_0 hω) (ks_0 _) rfl (j := 1) rfl dX11_count_49 ?_
    refine x_geti X (i := 1) fl_X11_101_4 (sdX_1 hω) (ks_1 _) rfl dX11_count_52 ?_
    exact x_retRI X R hf dX11_count_55
  · replace hf := (if_neg s1).symm.trans hf
    by_cases s2 : p0 = (1 : Int32)
    · replace hf := (if_pos s2).symm.trans hf
      refine x_tswI X (off := 55) 56 dX11_count_1 s2 (by decide) (by decide) (by decide) (by decide) ?_
      refine x_aload_n X dX11_count_56 0 rfl rfl ?_
      refine x_getsj X (i := 0) 1 fl_X11_14_12 (sdX_0 hω) (ks_0 _) rfl (j := 1) rfl dX11_count_57 ?_
      refine x_getsj X (i := 1) 1 fl_X11_77_4 (sdX_1 hω) (ks_1 _) rfl (j := 2) rfl dX11_count_60 ?_
      refine x_geti X (i := 2) fl_X11_179_3 (sdX_2 hω) (ks_2 _) rfl dX11_count_63 ?_
      exact x_retRI X R hf dX11_count_66
    · replace hf := (if_neg s2).symm.trans hf
      by_cases s3 : p0 = (2 : Int32)
      · replace hf := (if_pos s3).symm.trans hf
        refine x_tswI X (off := 66) 67 dX11_count_1 s3 (by decide) (by decide) (by decide) (by decide) ?_
        refine x_aload_n X dX11_count_67 0 rfl rfl ?_
        refine x_geti X (i := 0) fl_X11_41_12 (sdX_0 hω) (ks_0 _) rfl dX11_count_68 ?_
        exact x_retRI X R hf dX11_count_71
      · replace hf := (if_neg s3).symm.trans hf
        by_cases s4 : p0 = (3 : Int32)
        · replace hf := (if_pos s4).symm.trans hf
          refine x_tswI X (off := 71) 72 dX11_count_1 s4 (by decide) (by decide) (by decide) (by decide) ?_
          refine x_aload_n X dX11_count_72 0 rfl rfl ?_
          refine x_getsj X (i := 0) 1 fl_X11_14_12 (sdX_0 hω) (ks_0 _) rfl (j := 1) rfl dX11_count_73 ?_
          refine x_getsj X (i := 1) 6 fl_X11_185_4 (sdX_1 hω) (ks_1 _) rfl (j := 7) rfl dX11_count_76 ?_
          refine x_geti X (i := 7) fl_X11_179_3 (sdX_7 hω) (ks_7 _) rfl dX11_count_79 ?_
          exact x_retRI X R hf dX11_count_82
        · replace hf := (if_neg s4).symm.trans hf
          by_cases s5 : p0 = (4 : Int32)
          · replace hf := (if_pos s5).symm.trans hf
            refine x_tswI X (off := 82) 83 dX11_count_1 s5 (by decide) (by decide) (by decide) (by decide) ?_
            refine x_aload_n X dX11_count_83 0 rfl rfl ?_
            refine x_getsj X (i := 0) 1 fl_X11_14_12 (sdX_0 hω) (ks_0 _) rfl (j := 1) rfl dX11_count_84 ?_
            refine x_getsj X (i := 1) 8 fl_X11_206_4 (sdX_1 hω) (ks_1 _) rfl (j := 9) rfl dX11_count_87 ?_
            refine x_geti X (i := 9) fl_X11_179_3 (sdX_9 hω) (ks_9 _) rfl dX11_count_90 ?_
            exact x_retRI X R hf dX11_count_93
          · replace hf := (if_neg s5).symm.trans hf
            by_cases s6 : p0 = (5 : Int32)
            · replace hf := (if_pos s6).symm.trans hf
              refine x_tswI X (off := 93) 94 dX11_count_1 s6 (by decide) (by decide) (by decide) (by decide) ?_
              refine x_aload_n X dX11_count_94 0 rfl rfl ?_
              refine x_getsj X (i := 0) 1 fl_X11_14_12 (sdX_0 hω) (ks_0 _) rfl (j := 1) rfl dX11_count_95 ?_
              refine x_getsj X (i := 1) 10 fl_X11_213_4 (sdX_1 hω) (ks_1 _) rfl (j := 11) rfl dX11_count_98 ?_
              refine x_geti X (i := 11) fl_X11_179_3 (sdX_11 hω) (ks_11 _) rfl dX11_count_101 ?_
              exact x_retRI X R hf dX11_count_104
            · replace hf := (if_neg s6).symm.trans hf
              by_cases s7 : p0 = (6 : Int32)
              · replace hf := (if_pos s7).symm.trans hf
                refine x_tswI X (off := 104) 105 dX11_count_1 s7 (by decide) (by decide) (by decide) (by decide) ?_
                refine x_aload_n X dX11_count_105 0 rfl rfl ?_
                refine x_getsj X (i := 0) 25 fl_X11_32_12 (sdX_0 hω) (ks_0 _) rfl (j := 25) rfl dX11_count_106 ?_
                refine x_geti X (i := 25) fl_X11_179_3 (sdX_25 hω) (ks_25 _) rfl dX11_count_109 ?_
                exact x_retRI X R hf dX11_count_112
              · replace hf := (if_neg s7).symm.trans hf
                by_cases s8 : p0 = (7 : Int32)
                · replace hf := (if_pos s8).symm.trans hf
                  refine x_tswI X (off := 112) 113 dX11_count_1 s8 (by decide) (by decide) (by decide) (by decide) ?_
                  refine x_aload_n X dX11_count_113 0 rfl rfl ?_
                  refine x_getsj X (i := 0) 33 fl_X11_54_12 (sdX_0 hω) (ks_0 _) rfl (j := 33) rfl dX11_count_114 ?_
                  obtain ⟨r9, g10, hf⟩ := bnr_some hf
                  refine c_X11_245 X hω g10 (sdX_33 hω) (ks_33 _) (hR := ⟨Nat.le_of_ble_eq_true rfl, Nat.le_of_ble_eq_true rfl⟩) ⟨Nat.zero_le _, Nat.zero_le _⟩ (Nat.le_of_ble_eq_true rfl) dX11_count_117 ?_
                  exact x_retRI X R hf dX11_count_120
                · replace hf := (if_neg s8).symm.trans hf
                  refine x_tswO X 121 dX11_count_1 (by have := lv_neT s1 (a := 0) (by decide); have := lv_neT s2 (a := 1) (by decide); have := lv_neT s3 (a := 2) (by decide); have := lv_neT s4 (a := 3) (by decide); have := lv_neT s5 (a := 4) (by decide); have := lv_neT s6 (a := 5) (by decide); have := lv_neT s7 (a := 6) (by decide); have := lv_neT s8 (a := 7) (by decide); omega) (by decide) ?_
                  refine x_bipush X (v := -2) dX11_count_121 (by decide) ?_
                  exact x_retRI X R hf dX11_count_123
theorem mt_X11_count : MT yX11_count cX11_count 2 (some .int) "SignalBlind" 1 := ⟨(mT_5 3 rfl rfl), (mT_5 4 rfl rfl), (mT_1 1 rfl rfl), (mT_5 5 rfl rfl), by decide⟩

abbrev rm_X11_tape : Room := { frames := 1, cells := 0, slots := 0, locals := 23 }
def f_X11_tape_19 (h : hp) : Option (hp × Int32) := (some (h, (-2 : Int32)))
def f_X11_tape (h : hp) (p0 : Int32) (p1 : Int32) (p2 : Int32) : Option (hp × Int32) := (bnr (f_X11_isTape h p0) fun r1 =>
 (if r1 = 0 then
 (some (h, (-1 : Int32)))
 else
 (if p1 < (-1 : Int32) then
 (f_X11_tape_19 h)
 else
 (if (4 : Int32) < p1 then
 (f_X11_tape_19 h)
 else
 (if p1 = (-1 : Int32) then
 (chk p0 6
 (onO (aR h 32 (p0).toNatClampNeg) none fun i8 =>
 (ckO 1 h i8 8
 (bnd (f_X6_blank h i8 (-1 : Int32) (0 : Int32)) fun h10 _ =>
 (some (h10, (1 : Int32)))))))
 else
 (if (60 : Int32) < p2 then
 (some (h, (-2 : Int32)))
 else
 (if p2 < 0 then
 (some (h, (-14 : Int32)))
 else
 (chk p0 6
 (onO (aR h 32 (p0).toNatClampNeg) none fun i15 =>
 (ckO 1 h i15 8
 (bnd (f_X6_blank h i15 p1 p2) fun h17 _ =>
 (some (h17, (1 : Int32))))))))))))))
set_option maxRecDepth 100000 in
set_option maxHeartbeats 4000000 in
theorem k_X11_tape_19 {ω : XO} (hω : ω.2.2.2.1 = 1) {κ : XK} (X : XC ω rm_X11_tape 4 κ cX11_tape "SignalBlind") {L : List Nat} {q : Nat → Nat} {h' : hp} {r : Int32} (R : XRet ω rm_X11_tape κ (some .int) L q h' (some (.int r))) : ∀ (h : hp), f_X11_tape_19 h = some (h', r) → XG ω rm_X11_tape 4 κ L q h 0 0 19 [] [] := by
  intro h hf
  unfold f_X11_tape_19 at hf
  refine x_bipush X (v := -2) dX11_tape_19 (by decide) ?_
  exact x_retSI X R hf dX11_tape_21
set_option maxRecDepth 100000 in
set_option maxHeartbeats 4000000 in
theorem k_X11_tape {ω : XO} (hω : ω.2.2.2.1 = 1) {L : List Nat} {q : Nat → Nat} {h h' : hp} {p0 : Int32} {p1 : Int32} {p2 : Int32} {r : Int32} (hf : f_X11_tape h p0 p1 p2 = some (h', r)) : XM ω yX11_tape cX11_tape 4 (some .int) rm_X11_tape L q h [.ref (q 0), .int p0, .int p1, .int p2] (some (.int r)) h' := by
  refine XM_intro [(0, .ref (q 0)), (1, .int p0), (2, .int p1), (3, .int p2)] "SignalBlind" (by decide) rfl rfl (Nat.le_of_ble_eq_true rfl) (fun κ X R => ?_)
  unfold f_X11_tape at hf
  refine x_iload_n X dX11_tape_0 1 rfl rfl ?_
  obtain ⟨r1, g2, hf⟩ := bnr_some hf
  refine c_X11_216 X hω g2 (hR := ⟨Nat.le_of_ble_eq_true rfl, Nat.le_of_ble_eq_true rfl⟩) ⟨Nat.zero_le _, Nat.zero_le _⟩ (Nat.le_of_ble_eq_true rfl) dX11_tape_1 ?_
  refine x_if_ne X 9 dX11_tape_4 (by decide) (fun c3 => ?_) (fun c3 => ?_)
  · replace hf := (if_pos c3).symm.trans hf
    refine x_iconst X (v := -1) dX11_tape_7 (by decide) ?_
    exact x_retSI X R hf dX11_tape_8
  · replace hf := (if_neg c3).symm.trans hf
    refine x_iload_n X dX11_tape_9 2 rfl rfl ?_
    refine x_iconst X (v := -1) dX11_tape_10 (by decide) ?_
    refine x_icmp_lt X 19 dX11_tape_11 (by decide) (fun c4 => ?_) (fun c4 => ?_)
    · replace hf := (if_pos c4).symm.trans hf
      refine x_lv [] rfl ?_
      exact k_X11_tape_19 hω X R h hf
    · replace hf := (if_neg c4).symm.trans hf
      refine x_iload_n X dX11_tape_14 2 rfl rfl ?_
      refine x_iconst X (v := 4) dX11_tape_15 (by decide) ?_
      refine x_icmp_le X 22 dX11_tape_16 (by decide) (fun c5 => ?_) (fun c5 => ?_)
      · replace hf := (if_pos c5).symm.trans hf
        refine x_lv [] rfl ?_
        exact k_X11_tape_19 hω X R h hf
      · replace hf := (if_neg c5).symm.trans hf
        refine x_iload_n X dX11_tape_22 2 rfl rfl ?_
        refine x_iconst X (v := -1) dX11_tape_23 (by decide) ?_
        refine x_icmp_ne X 40 dX11_tape_24 (by decide) (fun c6 => ?_) (fun c6 => ?_)
        · replace hf := (if_pos c6).symm.trans hf
          refine x_aload_n X dX11_tape_27 0 rfl rfl ?_
          refine x_getsj X (i := 0) 32 fl_X11_47_12 (sdX_0 hω) (ks_0 _) rfl (j := 32) rfl dX11_tape_28 ?_
          refine x_iload_n X dX11_tape_31 1 rfl rfl ?_
          obtain ⟨z7, hf⟩ := chk_some hf
          refine x_aald X (i := 32) (n := 6) (e := 5) (by decide) (sdX_32 hω) (ks_32 _) z7 dX11_tape_32 ?_
          obtain ⟨i8, ei8, hf⟩ := onO_some hf
          refine x_nn ei8 ?_
          refine x_iconst X (v := -1) dX11_tape_33 (by decide) ?_
          refine x_iconst X (v := 0) dX11_tape_34 (by decide) ?_
          obtain ⟨b9, hf⟩ := ckO_some hf
          obtain ⟨h10, uh10, g11, hf⟩ := bnd_some hf
          refine c_X11_256 X hω g11 (sd_of hω b9.1) b9.2 (hR := ⟨Nat.le_of_ble_eq_true rfl, Nat.le_of_ble_eq_true rfl⟩) ⟨Nat.zero_le _, Nat.zero_le _⟩ (Nat.le_of_ble_eq_true rfl) dX11_tape_35 ?_
          refine x_iconst X (v := 1) dX11_tape_38 (by decide) ?_
          exact x_retSI X R hf dX11_tape_39
        · replace hf := (if_neg c6).symm.trans hf
          refine x_iload_n X dX11_tape_40 3 rfl rfl ?_
          refine x_bipush X (v := 60) dX11_tape_41 (by decide) ?_
          refine x_icmp_le X 49 dX11_tape_43 (by decide) (fun c12 => ?_) (fun c12 => ?_)
          · replace hf := (if_pos c12).symm.trans hf
            refine x_bipush X (v := -2) dX11_tape_46 (by decide) ?_
            exact x_retSI X R hf dX11_tape_48
          · replace hf := (if_neg c12).symm.trans hf
            refine x_iload_n X dX11_tape_49 3 rfl rfl ?_
            refine x_if_ge X 56 dX11_tape_50 (by decide) (fun c13 => ?_) (fun c13 => ?_)
            · replace hf := (if_pos c13).symm.trans hf
              refine x_bipush X (v := -14) dX11_tape_53 (by decide) ?_
              exact x_retSI X R hf dX11_tape_55
            · replace hf := (if_neg c13).symm.trans hf
              refine x_aload_n X dX11_tape_56 0 rfl rfl ?_
              refine x_getsj X (i := 0) 32 fl_X11_47_12 (sdX_0 hω) (ks_0 _) rfl (j := 32) rfl dX11_tape_57 ?_
              refine x_iload_n X dX11_tape_60 1 rfl rfl ?_
              obtain ⟨z14, hf⟩ := chk_some hf
              refine x_aald X (i := 32) (n := 6) (e := 5) (by decide) (sdX_32 hω) (ks_32 _) z14 dX11_tape_61 ?_
              obtain ⟨i15, ei15, hf⟩ := onO_some hf
              refine x_nn ei15 ?_
              refine x_iload_n X dX11_tape_62 2 rfl rfl ?_
              refine x_iload_n X dX11_tape_63 3 rfl rfl ?_
              obtain ⟨b16, hf⟩ := ckO_some hf
              obtain ⟨h17, uh17, g18, hf⟩ := bnd_some hf
              refine c_X11_256 X hω g18 (sd_of hω b16.1) b16.2 (hR := ⟨Nat.le_of_ble_eq_true rfl, Nat.le_of_ble_eq_true rfl⟩) ⟨Nat.zero_le _, Nat.zero_le _⟩ (Nat.le_of_ble_eq_true rfl) dX11_tape_64 ?_
              refine x_iconst X (v := 1) dX11_tape_67 (by decide) ?_
              exact x_retSI X R hf dX11_tape_68
theorem mt_X11_tape : MT yX11_tape cX11_tape 4 (some .int) "SignalBlind" 3 := ⟨(mT_5 7 rfl rfl), (mT_5 8 rfl rfl), (mT_1 1 rfl rfl), (mT_5 9 rfl rfl), by decide⟩

abbrev rm_X11_item : Room := { frames := 1, cells := 0, slots := 0, locals := 22 }
def f_X11_item (h : hp) (p0 : Int32) (p1 : Int32) (p2 : Int64) : Option (hp × Int32) := (bnr (f_X11_isTape h p0) fun r1 =>
 (if r1 = 0 then
 (some (h, (-1 : Int32)))
 else
 (chk p0 6
 (onO (aR h 32 (p0).toNatClampNeg) none fun i5 =>
 (ckO 1 h i5 8
 (if (hI h i5 1) = (-1 : Int32) then
 (some (h, (-11 : Int32)))
 else
 (ckO 1 h i5 8
 (bnr (f_X6_has h i5 p1) fun r9 =>
 (if r9 = 0 then
 (some (h, (-13 : Int32)))
 else
 (ckO 1 h i5 8
 (ckO 1 h i5 8
 (bnr (f_X6_narrowed h (hI h i5 1) p2) fun r14 =>
 (ckA 1 h (i5 + 1) 3
 (chk p1 (alen h (i5 + 1))
 (nm (tL h (i5 + 1) (p1).toNatClampNeg r14) fun h18 =>
 (some (h18, (1 : Int32))))))))))))))))))
set_option maxRecDepth 100000 in
set_option maxHeartbeats 4000000 in
theorem k_X11_item {ω : XO} (hω : ω.2.2.2.1 = 1) {L : List Nat} {q : Nat → Nat} {h h' : hp} {p0 : Int32} {p1 : Int32} {p2 : Int64} {r : Int32} (hf : f_X11_item h p0 p1 p2 = some (h', r)) : XM ω yX11_item cX11_item 6 (some .int) rm_X11_item L q h [.ref (q 0), .int p0, .int p1, .long p2] (some (.int r)) h' := by
  refine XM_intro [(0, .ref (q 0)), (1, .int p0), (2, .int p1), (3, .long p2)] "SignalBlind" (by decide) rfl rfl (Nat.le_of_ble_eq_true rfl) (fun κ X R => ?_)
  unfold f_X11_item at hf
  refine x_iload_n X dX11_item_0 1 rfl rfl ?_
  obtain ⟨r1, g2, hf⟩ := bnr_some hf
  refine c_X11_216 X hω g2 (hR := ⟨Nat.le_of_ble_eq_true rfl, Nat.le_of_ble_eq_true rfl⟩) ⟨Nat.zero_le _, Nat.zero_le _⟩ (Nat.le_of_ble_eq_true rfl) dX11_item_1 ?_
  refine x_if_ne X 9 dX11_item_4 (by decide) (fun c3 => ?_) (fun c3 => ?_)
  · replace hf := (if_pos c3).symm.trans hf
    refine x_iconst X (v := -1) dX11_item_7 (by decide) ?_
    exact x_retSI X R hf dX11_item_8
  · replace hf := (if_neg c3).symm.trans hf
    refine x_aload_n X dX11_item_9 0 rfl rfl ?_
    refine x_getsj X (i := 0) 32 fl_X11_47_12 (sdX_0 hω) (ks_0 _) rfl (j := 32) rfl dX11_item_10 ?_
    refine x_iload_n X dX11_item_13 1 rfl rfl ?_
    obtain ⟨z4, hf⟩ := chk_some hf
    refine x_aald X (i := 32) (n := 6) (e := 5) (by decide) (sdX_32 hω) (ks_32 _) z4 dX11_item_14 ?_
    obtain ⟨i5, ei5, hf⟩ := onO_some hf
    refine x_nn ei5 ?_
    refine x_astore X [(5, .ref (q i5)), (0, .ref (q 0)), (1, .int p0), (2, .int p1), (3, .long p2)] dX11_item_15 (Nat.le_of_ble_eq_true rfl) rfl ?_
    refine x_aload X dX11_item_17 0 rfl ?_
    obtain ⟨b6, hf⟩ := ckO_some hf
    refine x_geti X (i := i5) fl_X11_219_7 (sd_of hω b6.1) b6.2 rfl dX11_item_19 ?_
    refine x_iconst X (v := -1) dX11_item_22 (by decide) ?_
    refine x_icmp_ne X 29 dX11_item_23 (by decide) (fun c7 => ?_) (fun c7 => ?_)
    · replace hf := (if_pos c7).symm.trans hf
      refine x_bipush X (v := -11) dX11_item_26 (by decide) ?_
      exact x_retSI X R hf dX11_item_28
    · replace hf := (if_neg c7).symm.trans hf
      refine x_aload X dX11_item_29 0 rfl ?_
      refine x_iload_n X dX11_item_31 3 rfl rfl ?_
      obtain ⟨b8, hf⟩ := ckO_some hf
      obtain ⟨r9, g10, hf⟩ := bnr_some hf
      refine c_X11_222 X hω g10 (sd_of hω b8.1) b8.2 (hR := ⟨Nat.le_of_ble_eq_true rfl, Nat.le_of_ble_eq_true rfl⟩) ⟨Nat.zero_le _, Nat.zero_le _⟩ (Nat.le_of_ble_eq_true rfl) dX11_item_32 ?_
      refine x_if_ne X 41 dX11_item_35 (by decide) (fun c11 => ?_) (fun c11 => ?_)
      · replace hf := (if_pos c11).symm.trans hf
        refine x_bipush X (v := -13) dX11_item_38 (by decide) ?_
        exact x_retSI X R hf dX11_item_40
      · replace hf := (if_neg c11).symm.trans hf
        refine x_aload X dX11_item_41 0 rfl ?_
        obtain ⟨b12, hf⟩ := ckO_some hf
        refine x_getsj X (i := i5) 1 fl_X11_225_7 (sd_of hω b12.1) b12.2 rfl (j := (i5 + 1)) rfl dX11_item_43 ?_
        refine x_iload_n X dX11_item_46 3 rfl rfl ?_
        refine x_aload X dX11_item_47 0 rfl ?_
        obtain ⟨b13, hf⟩ := ckO_some hf
        refine x_geti X (i := i5) fl_X11_219_7 (sd_of hω b13.1) b13.2 rfl dX11_item_49 ?_
        refine x_lload_n X dX11_item_52 4 rfl rfl ?_
        obtain ⟨r14, g15, hf⟩ := bnr_some hf
        refine c_X11_259 X hω g15 (hR := ⟨Nat.le_of_ble_eq_true rfl, Nat.le_of_ble_eq_true rfl⟩) ⟨Nat.zero_le _, Nat.zero_le _⟩ (Nat.le_of_ble_eq_true rfl) dX11_item_53 ?_
        obtain ⟨b16, hf⟩ := ckA_some hf
        obtain ⟨z17, hf⟩ := chk_some hf
        refine x_last X (i := (i5 + 1)) (n := (alen h (i5 + 1))) (sd_of hω b16.1) b16.2 z17 dX11_item_56 ?_
        obtain ⟨h18, eh18, hf⟩ := nm_some hf
        refine x_nmh eh18 ?_
        refine x_iconst X (v := 1) dX11_item_57 (by decide) ?_
        exact x_retSI X R hf dX11_item_58
theorem mt_X11_item : MT yX11_item cX11_item 6 (some .int) "SignalBlind" 3 := ⟨(mT_5 15 rfl rfl), (mT_5 16 rfl rfl), (mT_1 1 rfl rfl), (mT_5 17 rfl rfl), by decide⟩

abbrev rm_X11_read : Room := { frames := 1, cells := 0, slots := 0, locals := 21 }
def f_X11_read_37 (h : hp) (a4 : Int64) : Option Int64 := (some a4)
def f_X11_read_34 (h : hp) : Option Int64 := (f_X11_read_37 h (-9223372036854775808 : Int64))
def f_X11_read (h : hp) (p0 : Int32) (p1 : Int32) : Option Int64 := (bnr (f_X11_isTape h p0) fun r1 =>
 (if r1 = 0 then
 (f_X11_read_34 h)
 else
 (chk p0 6
 (onO (aR h 32 (p0).toNatClampNeg) none fun i6 =>
 (ckO 1 h i6 8
 (bnr (f_X6_has h i6 p1) fun r8 =>
 (if r8 = 0 then
 (f_X11_read_34 h)
 else
 (chk p0 6
 (onO (aR h 32 (p0).toNatClampNeg) none fun i12 =>
 (ckO 1 h i12 8
 (ckA 1 h (i12 + 1) 3
 (chk p1 (alen h (i12 + 1))
 (f_X11_read_37 h (aL h (i12 + 1) (p1).toNatClampNeg))))))))))))))
set_option maxRecDepth 100000 in
set_option maxHeartbeats 4000000 in
theorem k_X11_read_37 {ω : XO} (hω : ω.2.2.2.1 = 1) {κ : XK} (X : XC ω rm_X11_read 3 κ cX11_read "SignalBlind") {L : List Nat} {q : Nat → Nat} {h : hp} {r : Int64} (R : XRet ω rm_X11_read κ (some .long) L q h (some (.long r))) : ∀ (a4 : Int64), f_X11_read_37 h a4 = some r → XG ω rm_X11_read 3 κ L q h 0 0 37 [] [.long a4] := by
  intro a4 hf
  unfold f_X11_read_37 at hf
  exact x_retRL X R hf dX11_read_37
set_option maxRecDepth 100000 in
set_option maxHeartbeats 4000000 in
theorem k_X11_read_34 {ω : XO} (hω : ω.2.2.2.1 = 1) {κ : XK} (X : XC ω rm_X11_read 3 κ cX11_read "SignalBlind") {L : List Nat} {q : Nat → Nat} {h : hp} {r : Int64} (R : XRet ω rm_X11_read κ (some .long) L q h (some (.long r))) : f_X11_read_34 h = some r → XG ω rm_X11_read 3 κ L q h 0 0 34 [] [] := by
  intro  hf
  unfold f_X11_read_34 at hf
  refine x_ldc2 X (v := -9223372036854775808) (mT_3 233 rfl rfl) dX11_read_34 ?_
  refine x_lv [] rfl ?_
  exact k_X11_read_37 hω X R _ hf
set_option maxRecDepth 100000 in
set_option maxHeartbeats 4000000 in
theorem k_X11_read {ω : XO} (hω : ω.2.2.2.1 = 1) {L : List Nat} {q : Nat → Nat} {h : hp} {p0 : Int32} {p1 : Int32} {r : Int64} (hf : f_X11_read h p0 p1 = some r) : XM ω yX11_read cX11_read 3 (some .long) rm_X11_read L q h [.ref (q 0), .int p0, .int p1] (some (.long r)) h := by
  refine XM_intro [(0, .ref (q 0)), (1, .int p0), (2, .int p1)] "SignalBlind" (by decide) rfl rfl (Nat.le_of_ble_eq_true rfl) (fun κ X R => ?_)
  unfold f_X11_read at hf
  refine x_iload_n X dX11_read_0 1 rfl rfl ?_
  obtain ⟨r1, g2, hf⟩ := bnr_some hf
  refine c_X11_216 X hω g2 (hR := ⟨Nat.le_of_ble_eq_true rfl, Nat.le_of_ble_eq_true rfl⟩) ⟨Nat.zero_le _, Nat.zero_le _⟩ (Nat.le_of_ble_eq_true rfl) dX11_read_1 ?_
  refine x_if_eq X 34 dX11_read_4 (by decide) (fun c3 => ?_) (fun c3 => ?_)
  · replace hf := (if_pos c3).symm.trans hf
    refine x_lv [] rfl ?_
    exact k_X11_read_34 hω X R  hf
  · replace hf := (if_neg c3).symm.trans hf
    refine x_aload_n X dX11_read_7 0 rfl rfl ?_
    refine x_getsj X (i := 0) 32 fl_X11_47_12 (sdX_0 hω) (ks_0 _) rfl (j := 32) rfl dX11_read_8 ?_
    refine x_iload_n X dX11_read_11 1 rfl rfl ?_
    obtain ⟨z5, hf⟩ := chk_some hf
    refine x_aald X (i := 32) (n := 6) (e := 5) (by decide) (sdX_32 hω) (ks_32 _) z5 dX11_read_12 ?_
    obtain ⟨i6, ei6, hf⟩ := onO_some hf
    refine x_nn ei6 ?_
    refine x_iload_n X dX11_read_13 2 rfl rfl ?_
    obtain ⟨b7, hf⟩ := ckO_some hf
    obtain ⟨r8, g9, hf⟩ := bnr_some hf
    refine c_X11_222 X hω g9 (sd_of hω b7.1) b7.2 (hR := ⟨Nat.le_of_ble_eq_true rfl, Nat.le_of_ble_eq_true rfl⟩) ⟨Nat.zero_le _, Nat.zero_le _⟩ (Nat.le_of_ble_eq_true rfl) dX11_read_14 ?_
    refine x_if_eq X 34 dX11_read_17 (by decide) (fun c10 => ?_) (fun c10 => ?_)
    · replace hf := (if_pos c10).symm.trans hf
      refine x_lv [] rfl ?_
      exact k_X11_read_34 hω X R  hf
    · replace hf := (if_neg c10).symm.trans hf
      refine x_aload_n X dX11_read_20 0 rfl rfl ?_
      refine x_getsj X (i := 0) 32 fl_X11_47_12 (sdX_0 hω) (ks_0 _) rfl (j := 32) rfl dX11_read_21 ?_
      refine x_iload_n X dX11_read_24 1 rfl rfl ?_
      obtain ⟨z11, hf⟩ := chk_some hf
      refine x_aald X (i := 32) (n := 6) (e := 5) (by decide) (sdX_32 hω) (ks_32 _) z11 dX11_read_25 ?_
      obtain ⟨i12, ei12, hf⟩ := onO_some hf
      refine x_nn ei12 ?_
      obtain ⟨b13, hf⟩ := ckO_some hf
      refine x_getsj X (i := i12) 1 fl_X11_225_7 (sd_of hω b13.1) b13.2 rfl (j := (i12 + 1)) rfl dX11_read_26 ?_
      refine x_iload_n X dX11_read_29 2 rfl rfl ?_
      obtain ⟨b14, hf⟩ := ckA_some hf
      obtain ⟨z15, hf⟩ := chk_some hf
      refine x_lald X (i := (i12 + 1)) (n := (alen h (i12 + 1))) (sd_of hω b14.1) b14.2 z15 dX11_read_30 ?_
      refine x_goto X 37 dX11_read_31 (by decide) ?_
      refine x_lv [] rfl ?_
      exact k_X11_read_37 hω X R _ hf
theorem mt_X11_read : MT yX11_read cX11_read 3 (some .long) "SignalBlind" 2 := ⟨(mT_5 22 rfl rfl), (mT_5 23 rfl rfl), (mT_1 1 rfl rfl), (mT_5 24 rfl rfl), by decide⟩

abbrev rm_X11_shift : Room := { frames := 1, cells := 0, slots := 0, locals := 84 }
def f_X11_shift_14 (h : hp) : Option (hp × Int32) := (some (h, (-1 : Int32)))
def f_X11_shift_50 (h : hp) : Option (hp × Int32) := (some (h, (-11 : Int32)))
def f_X11_shift_92 (h : hp) : Option (hp × Int32) := (some (h, (-13 : Int32)))
def f_X11_shift (h : hp) (p0 : Int32) (p1 : Int32) (p2 : Int32) (p3 : Int32) (p4 : Int32) : Option (hp × Int32) := (bnr (f_X11_isTape h p0) fun r1 =>
 (if r1 = 0 then
 (f_X11_shift_14 h)
 else
 (bnr (f_X11_isTape h p2) fun r4 =>
 (if r4 = 0 then
 (f_X11_shift_14 h)
 else
 (chk p0 6
 (onO (aR h 32 (p0).toNatClampNeg) none fun i8 =>
 (chk p2 6
 (onO (aR h 32 (p2).toNatClampNeg) none fun i10 =>
 (ckO 1 h i8 8
 (if (hI h i8 1) = (-1 : Int32) then
 (f_X11_shift_50 h)
 else
 (ckO 1 h i10 8
 (if (hI h i10 1) = (-1 : Int32) then
 (f_X11_shift_50 h)
 else
 (ckO 1 h i8 8
 (ckO 1 h i10 8
 (if (hI h i8 1) = (hI h i10 1) then
 (ckO 1 h i8 8
 (bnr (f_X6_hasSpan h i8 p1 p4) fun r19 =>
 (if r19 = 0 then
 (f_X11_shift_92 h)
 else
 (ckO 1 h i10 8
 (bnr (f_X6_hasSpan h i10 p3 p4) fun r23 =>
 (if r23 = 0 then
 (f_X11_shift_92 h)
 else
 (ckO 1 h i8 8
 (ckO 1 h i10 8
 (ckA 1 h (i8 + 1) 3
 (ckA 1 h (i10 + 1) 3
 (ckC p1 p3 p4 (alen h (i8 + 1)) (alen h (i10 + 1))
 (nm (cpL h (i8 + 1) (i10 + 1) (p1).toNatClampNeg (p3).toNatClampNeg (p4).toNatClampNeg) fun h31 =>
 (some (h31, p4))))))))))))))
 else
 (some (h, (-12 : Int32))))))))))))))))))
set_option maxRecDepth 100000 in
set_option maxHeartbeats 4000000 in
theorem k_X11_shift_14 {ω : XO} (hω : ω.2.2.2.1 = 1) {κ : XK} (X : XC ω rm_X11_shift 8 κ cX11_shift "SignalBlind") {L : List Nat} {q : Nat → Nat} {h' : hp} {r : Int32} (R : XRet ω rm_X11_shift κ (some .int) L q h' (some (.int r))) : ∀ (h : hp), f_X11_shift_14 h = some (h', r) → XG ω rm_X11_shift 8 κ L q h 0 0 14 [] [] := by
  intro h hf
  unfold f_X11_shift_14 at hf
  refine x_iconst X (v := -1) dX11_shift_14 (by decide) ?_
  exact x_retSI X R hf dX11_shift_15
set_option maxRecDepth 100000 in
set_option maxHeartbeats 4000000 in
theorem k_X11_shift_50 {ω : XO} (hω : ω.2.2.2.1 = 1) {κ : XK} (X : XC ω rm_X11_shift 8 κ cX11_shift "SignalBlind") {L : List Nat} {q : Nat → Nat} {h' : hp} {r : Int32} (R : XRet ω rm_X11_shift κ (some .int) L q h' (some (.int r))) : ∀ (h : hp), f_X11_shift_50 h = some (h', r) → XG ω rm_X11_shift 8 κ L q h 0 0 50 [] [] := by
  intro h hf
  unfold f_X11_shift_50 at hf
  refine x_bipush X (v := -11) dX11_shift_50 (by decide) ?_
  exact x_retSI X R hf dX11_shift_52
set_option maxRecDepth 100000 in
set_option maxHeartbeats 4000000 in
theorem k_X11_shift_92 {ω : XO} (hω : ω.2.2.2.1 = 1) {κ : XK} (X : XC ω rm_X11_shift 8 κ cX11_shift "SignalBlind") {L : List Nat} {q : Nat → Nat} {h' : hp} {r : Int32} (R : XRet ω rm_X11_shift κ (some .int) L q h' (some (.int r))) : ∀ (h : hp), f_X11_shift_92 h = some (h', r) → XG ω rm_X11_shift 8 κ L q h 0 0 92 [] [] := by
  intro h hf
  unfold f_X11_shift_92 at hf
  refine x_bipush X (v := -13) dX11_shift_92 (by decide) ?_
  exact x_retSI X R hf dX11_shift_94
set_option maxRecDepth 100000 in
set_option maxHeartbeats 4000000 in
theorem k_X11_shift {ω : XO} (hω : ω.2.2.2.1 = 1) {L : List Nat} {q : Nat → Nat} {h h' : hp} {p0 : Int32} {p1 : Int32} {p2 : Int32} {p3 : Int32} {p4 : Int32} {r : Int32} (hf : f_X11_shift h p0 p1 p2 p3 p4 = some (h', r)) : XM ω yX11_shift cX11_shift 8 (some .int) rm_X11_shift L q h [.ref (q 0), .int p0, .int p1, .int p2, .int p3, .int p4] (some (.int r)) h' := by
  refine XM_intro [(0, .ref (q 0)), (1, .int p0), (2, .int p1), (3, .int p2), (4, .int p3), (5, .int p4)] "SignalBlind" (by decide) rfl rfl (Nat.le_of_ble_eq_true rfl) (fun κ X R => ?_)
  unfold f_X11_shift at hf
  refine x_iload_n X dX11_shift_0 1 rfl rfl ?_
  obtain ⟨r1, g2, hf⟩ := bnr_some hf
  refine c_X11_216 X hω g2 (hR := ⟨Nat.le_of_ble_eq_true rfl, Nat.le_of_ble_eq_true rfl⟩) ⟨Nat.zero_le _, Nat.zero_le _⟩ (Nat.le_of_ble_eq_true rfl) dX11_shift_1 ?_
  refine x_if_eq X 14 dX11_shift_4 (by decide) (fun c3 => ?_) (fun c3 => ?_)
  · replace hf := (if_pos c3).symm.trans hf
    refine x_lv [] rfl ?_
    exact k_X11_shift_14 hω X R h hf
  · replace hf := (if_neg c3).symm.trans hf
    refine x_iload_n X dX11_shift_7 3 rfl rfl ?_
    obtain ⟨r4, g5, hf⟩ := bnr_some hf
    refine c_X11_216 X hω g5 (hR := ⟨Nat.le_of_ble_eq_true rfl, Nat.le_of_ble_eq_true rfl⟩) ⟨Nat.zero_le _, Nat.zero_le _⟩ (Nat.le_of_ble_eq_true rfl) dX11_shift_8 ?_
    refine x_if_ne X 16 dX11_shift_11 (by decide) (fun c6 => ?_) (fun c6 => ?_)
    · replace hf := (if_pos c6).symm.trans hf
      refine x_lv [] rfl ?_
      exact k_X11_shift_14 hω X R h hf
    · replace hf := (if_neg c6).symm.trans hf
      refine x_aload_n X dX11_shift_16 0 rfl rfl ?_
      refine x_getsj X (i := 0) 32 fl_X11_47_12 (sdX_0 hω) (ks_0 _) rfl (j := 32) rfl dX11_shift_17 ?_
      refine x_iload_n X dX11_shift_20 1 rfl rfl ?_
      obtain ⟨z7, hf⟩ := chk_some hf
      refine x_aald X (i := 32) (n := 6) (e := 5) (by decide) (sdX_32 hω) (ks_32 _) z7 dX11_shift_21 ?_
      obtain ⟨i8, ei8, hf⟩ := onO_some hf
      refine x_nn ei8 ?_
      refine x_astore X [(6, .ref (q i8)), (0, .ref (q 0)), (1, .int p0), (2, .int p1), (3, .int p2), (4, .int p3), (5, .int p4)] dX11_shift_22 (Nat.le_of_ble_eq_true rfl) rfl ?_
      refine x_aload_n X dX11_shift_24 1 rfl rfl ?_
      refine x_getsj X (i := 0) 32 fl_X11_47_12 (sdX_0 hω) (ks_0 _) rfl (j := 32) rfl dX11_shift_25 ?_
      refine x_iload_n X dX11_shift_28 4 rfl rfl ?_
      obtain ⟨z9, hf⟩ := chk_some hf
      refine x_aald X (i := 32) (n := 6) (e := 5) (by decide) (sdX_32 hω) (ks_32 _) z9 dX11_shift_29 ?_
      obtain ⟨i10, ei10, hf⟩ := onO_some hf
      refine x_nn ei10 ?_
      refine x_astore X [(7, .ref (q i10)), (6, .ref (q i8)), (0, .ref (q 0)), (1, .int p0), (2, .int p1), (3, .int p2), (4, .int p3), (5, .int p4)] dX11_shift_30 (Nat.le_of_ble_eq_true rfl) rfl ?_
      refine x_aload X dX11_shift_32 1 rfl ?_
      obtain ⟨b11, hf⟩ := ckO_some hf
      refine x_geti X (i := i8) fl_X11_219_7 (sd_of hω b11.1) b11.2 rfl dX11_shift_34 ?_
      refine x_iconst X (v := -1) dX11_shift_37 (by decide) ?_
      refine x_icmp_eq X 50 dX11_shift_38 (by decide) (fun c12 => ?_) (fun c12 => ?_)
      · replace hf := (if_pos c12).symm.trans hf
        refine x_lv [] rfl ?_
        exact k_X11_shift_50 hω X R h hf
      · replace hf := (if_neg c12).symm.trans hf
        refine x_aload X dX11_shift_41 0 rfl ?_
        obtain ⟨b13, hf⟩ := ckO_some hf
        refine x_geti X (i := i10) fl_X11_219_7 (sd_of hω b13.1) b13.2 rfl dX11_shift_43 ?_
        refine x_iconst X (v := -1) dX11_shift_46 (by decide) ?_
        refine x_icmp_ne X 53 dX11_shift_47 (by decide) (fun c14 => ?_) (fun c14 => ?_)
        · replace hf := (if_pos c14).symm.trans hf
          refine x_lv [] rfl ?_
          exact k_X11_shift_50 hω X R h hf
        · replace hf := (if_neg c14).symm.trans hf
          refine x_aload X dX11_shift_53 1 rfl ?_
          obtain ⟨b15, hf⟩ := ckO_some hf
          refine x_geti X (i := i8) fl_X11_219_7 (sd_of hω b15.1) b15.2 rfl dX11_shift_55 ?_
          refine x_aload X dX11_shift_58 0 rfl ?_
          obtain ⟨b16, hf⟩ := ckO_some hf
          refine x_geti X (i := i10) fl_X11_219_7 (sd_of hω b16.1) b16.2 rfl dX11_shift_60 ?_
          refine x_icmp_eq X 69 dX11_shift_63 (by decide) (fun c17 => ?_) (fun c17 => ?_)
          · replace hf := (if_pos c17).symm.trans hf
            refine x_aload X dX11_shift_69 1 rfl ?_
            refine x_iload_n X dX11_shift_71 4 rfl rfl ?_
            refine x_iload X dX11_shift_72 7 rfl ?_
            obtain ⟨b18, hf⟩ := ckO_some hf
            obtain ⟨r19, g20, hf⟩ := bnr_some hf
            refine c_X11_263 X hω g20 (sd_of hω b18.1) b18.2 (hR := ⟨Nat.le_of_ble_eq_true rfl, Nat.le_of_ble_eq_true rfl⟩) ⟨Nat.zero_le _, Nat.zero_le _⟩ (Nat.le_of_ble_eq_true rfl) dX11_shift_74 ?_
            refine x_if_eq X 92 dX11_shift_77 (by decide) (fun c21 => ?_) (fun c21 => ?_)
            · replace hf := (if_pos c21).symm.trans hf
              refine x_lv [] rfl ?_
              exact k_X11_shift_92 hω X R h hf
            · replace hf := (if_neg c21).symm.trans hf
              refine x_aload X dX11_shift_80 0 rfl ?_
              refine x_iload X dX11_shift_82 6 rfl ?_
              refine x_iload X dX11_shift_84 7 rfl ?_
              obtain ⟨b22, hf⟩ := ckO_some hf
              obtain ⟨r23, g24, hf⟩ := bnr_some hf
              refine c_X11_263 X hω g24 (sd_of hω b22.1) b22.2 (hR := ⟨Nat.le_of_ble_eq_true rfl, Nat.le_of_ble_eq_true rfl⟩) ⟨Nat.zero_le _, Nat.zero_le _⟩ (Nat.le_of_ble_eq_true rfl) dX11_shift_86 ?_
              refine x_if_ne X 95 dX11_shift_89 (by decide) (fun c25 => ?_) (fun c25 => ?_)
              · replace hf := (if_pos c25).symm.trans hf
                refine x_lv [] rfl ?_
                exact k_X11_shift_92 hω X R h hf
              · replace hf := (if_neg c25).symm.trans hf
                refine x_aload X dX11_shift_95 1 rfl ?_
                obtain ⟨b26, hf⟩ := ckO_some hf
                refine x_getsj X (i := i8) 1 fl_X11_225_7 (sd_of hω b26.1) b26.2 rfl (j := (i8 + 1)) rfl dX11_shift_97 ?_
                refine x_iload_n X dX11_shift_100 4 rfl rfl ?_
                refine x_aload X dX11_shift_101 0 rfl ?_
                obtain ⟨b27, hf⟩ := ckO_some hf
                refine x_getsj X (i := i10) 1 fl_X11_225_7 (sd_of hω b27.1) b27.2 rfl (j := (i10 + 1)) rfl dX11_shift_103 ?_
                refine x_iload X dX11_shift_106 6 rfl ?_
                refine x_iload X dX11_shift_108 7 rfl ?_
                obtain ⟨b28, hf⟩ := ckA_some hf
                obtain ⟨b29, hf⟩ := ckA_some hf
                obtain ⟨b30, hf⟩ := ckC_some hf
                refine x_copyL_X11_267 X (i := (i8 + 1)) (j := (i10 + 1)) (n0 := (alen h (i8 + 1))) (n1 := (alen h (i10 + 1))) (sd_of hω b28.1) b28.2 (sd_of hω b29.1) b29.2 b30 (Nat.le_of_ble_eq_true rfl) (by decide +kernel) dX11_shift_110 ?_
                obtain ⟨h31, eh31, hf⟩ := nm_some hf
                refine x_nmh eh31 ?_
                refine x_iload X dX11_shift_113 7 rfl ?_
                exact x_retSI X R hf dX11_shift_115
          · replace hf := (if_neg c17).symm.trans hf
            refine x_bipush X (v := -12) dX11_shift_66 (by decide) ?_
            exact x_retSI X R hf dX11_shift_68
theorem mt_X11_shift : MT yX11_shift cX11_shift 8 (some .int) "SignalBlind" 5 := ⟨(mT_5 26 rfl rfl), (mT_5 27 rfl rfl), (mT_1 1 rfl rfl), (mT_5 28 rfl rfl), by decide⟩

abbrev rm_X4_tilts : Room := { frames := 3, cells := 0, slots := 0, locals := 64 }
def f_X4_tilts (h : hp) (o : Nat) (p0 : Int32) (p1 : Nat) : Option (hp × Int32) := (ckO 1 h p1 1
 (bnd (f_J4_append_cf468 h p1 (10 : Int32)) fun h2 r3 =>
 (ckS h2 o
 (some (h2, (p0 + (hI h2 o 0)))))))
set_option maxRecDepth 100000 in
set_option maxHeartbeats 4000000 in
theorem k_X4_tilts {ω : XO} (hω : ω.2.2.2.1 = 1) {L : List Nat} {q : Nat → Nat} {h h' : hp} {o : Nat} {p0 : Int32} {p1 : Nat} {r : Int32} (hf : f_X4_tilts h o p0 p1 = some (h', r)) : XM ω yX4_tilts cX4_tilts 3 (some .int) rm_X4_tilts L q h [.ref (q o), .int p0, .ref (q p1)] (some (.int r)) h' := by
  refine XM_intro [(0, .ref (q o)), (1, .int p0), (2, .ref (q p1))] "SignalBlind$Sender" (by decide) rfl rfl (Nat.le_of_ble_eq_true rfl) (fun κ X R => ?_)
  unfold f_X4_tilts at hf
  refine x_aload_n X dX4_tilts_0 2 rfl rfl ?_
  refine x_bipush X (v := 10) dX4_tilts_1 (by decide) ?_
  obtain ⟨b1, hf⟩ := ckO_some hf
  obtain ⟨h2, r3, g4, hf⟩ := bnd_some hf
  refine c_X4_19 X hω g4 (sd_of hω b1.1) b1.2 (hR := ⟨Nat.le_of_ble_eq_true rfl, Nat.le_of_ble_eq_true rfl⟩) ⟨Nat.zero_le _, Nat.zero_le _⟩ (Nat.le_of_ble_eq_true rfl) dX4_tilts_3 ?_
  refine x_pop X dX4_tilts_6 rfl ?_
  refine x_iload_n X dX4_tilts_7 1 rfl rfl ?_
  refine x_aload_n X dX4_tilts_8 0 rfl rfl ?_
  obtain ⟨b5, hf⟩ := ckS_some hf
  refine x_getS_X4_7 X hω b5 dX4_tilts_9 ?_
  refine x_iadd X dX4_tilts_12 ?_
  exact x_retSI X R hf dX4_tilts_13
theorem mt_X4_tilts : MT yX4_tilts cX4_tilts 3 (some .int) "SignalBlind$Sender" 2 := ⟨(mT_4 105 rfl rfl), (mT_4 106 rfl rfl), (mT_1 11 rfl rfl), (mT_4 163 rfl rfl), by decide⟩
theorem c_X0_15 {ω : XO} {rm : Room} {nL : Nat} {κ : XK} {cc : ByteArray} (X : XC ω rm nL κ cc "SignalBlind$Half") (hω : ω.2.2.2.1 = 1) {L : List Nat} {q : Nat → Nat} {h h' : hp} {cells slots pc : Nat} {lv : List (Nat × Value)} {rest : List Value} {o : Nat} {p0 : Int32} {p1 : Nat} {r : Int32} (hf : f_X4_tilts h o p0 p1 = some (h', r)) (hb : sd 1 o = true ∧ kdOf h o ∈ sndK) (hR : rm_X4_tilts.frames + 1 ≤ rm.frames ∧ 8 + (3 + 11) + rm_X4_tilts.locals ≤ rm.locals) (hcs : cells ≤ rm.cells ∧ slots ≤ rm.slots) (hroom : (rest.map fun v => v.category).sum ≤ 8) (hd : decode cc pc = .ok (.invokespecial 15, 3)) (kk : XG ω rm nL κ L q h' cells slots (pc + 3) lv (.int r :: rest)) : XG ω rm nL κ L q h cells slots pc lv (.ref (q p1) :: .int p0 :: .ref (q o) :: rest) := by
  have hs := sd_of hω hb.1
  rcases snd_cases hb.2 with e | e | e | e | e | e | e <;> exact x_callSU X [.int p0, .ref (q p1)] rest (k_X4_tilts hω hf) (by intro w hw; simp only [List.mem_cons, List.not_mem_nil, or_false] at hw; rcases hw with rfl | rfl | rfl | rfl | rfl <;> first | exact (mT_4 146 rfl rfl) | exact (mT_4 107 rfl rfl) | exact (mT_2 62 rfl rfl) | exact (mT_4 105 rfl rfl) | exact (mT_1 11 rfl rfl)) (mT_4 163 rfl rfl) ⟨by decide, (by decide : (parseMethodDescriptor yX4_tilts.desc).map (fun d => d.parameters.length) = some 2)⟩ hR ⟨rfl, rfl⟩ hcs hs e (by decide) rfl rfl hroom hd kk
theorem c_X5_23 {ω : XO} {rm : Room} {nL : Nat} {κ : XK} {cc : ByteArray} (X : XC ω rm nL κ cc "SignalBlind$Sister") (hω : ω.2.2.2.1 = 1) {L : List Nat} {q : Nat → Nat} {h h' : hp} {cells slots pc : Nat} {lv : List (Nat × Value)} {rest : List Value} {o : Nat} {p0 : Int32} {p1 : Nat} {r : Int32} (hf : f_X4_tilts h o p0 p1 = some (h', r)) (hb : sd 1 o = true ∧ kdOf h o ∈ sndK) (hR : rm_X4_tilts.frames + 1 ≤ rm.frames ∧ 8 + (3 + 11) + rm_X4_tilts.locals ≤ rm.locals) (hcs : cells ≤ rm.cells ∧ slots ≤ rm.slots) (hroom : (rest.map fun v => v.category).sum ≤ 8) (hd : decode cc pc = .ok (.invokespecial 23, 3)) (kk : XG ω rm nL κ L q h' cells slots (pc + 3) lv (.int r :: rest)) : XG ω rm nL κ L q h cells slots pc lv (.ref (q p1) :: .int p0 :: .ref (q o) :: rest) := by
  have hs := sd_of hω hb.1
  rcases snd_cases hb.2 with e | e | e | e | e | e | e <;> exact x_callSI (owner := "SignalBlind$Sender") (x := ⟨"SignalBlind$Tilted", "tilts", "(ILjava/lang/StringBuilder;)I"⟩) X [.int p0, .ref (q p1)] rest (k_X4_tilts hω hf) rfl (by intro w hw; simp only [List.mem_cons, List.not_mem_nil, or_false] at hw; rcases hw with rfl | rfl | rfl | rfl | rfl | rfl <;> first | exact (mT_4 152 rfl rfl) | exact (mT_4 153 rfl rfl) | exact (mT_2 82 rfl rfl) | exact (mT_2 52 rfl rfl) | exact (mT_4 105 rfl rfl) | exact (mT_1 11 rfl rfl)) (mT_4 163 rfl rfl) ⟨by decide, (by decide : (parseMethodDescriptor yX4_tilts.desc).map (fun d => d.parameters.length) = some 2)⟩ hR ⟨rfl, rfl⟩ hcs hs e (by decide) rfl rfl hroom hd kk
theorem c_X8_21 {ω : XO} {rm : Room} {nL : Nat} {κ : XK} {cc : ByteArray} (X : XC ω rm nL κ cc "SignalBlind$Told") (hω : ω.2.2.2.1 = 1) {L : List Nat} {q : Nat → Nat} {h h' : hp} {cells slots pc : Nat} {lv : List (Nat × Value)} {rest : List Value} {o : Nat} {p0 : Int32} {p1 : Nat} {r : Int32} (hf : f_X4_tilts h o p0 p1 = some (h', r)) (hb : sd 1 o = true ∧ kdOf h o ∈ sndK) (hR : rm_X4_tilts.frames + 1 ≤ rm.frames ∧ 8 + (3 + 11) + rm_X4_tilts.locals ≤ rm.locals) (hcs : cells ≤ rm.cells ∧ slots ≤ rm.slots) (hroom : (rest.map fun v => v.category).sum ≤ 8) (hd : decode cc pc = .ok (.invokespecial 21, 3)) (kk : XG ω rm nL κ L q h' cells slots (pc + 3) lv (.int r :: rest)) : XG ω rm nL κ L q h cells slots pc lv (.ref (q p1) :: .int p0 :: .ref (q o) :: rest) := by
  have hs := sd_of hω hb.1
  rcases snd_cases hb.2 with e | e | e | e | e | e | e <;> exact x_callSI (owner := "SignalBlind$Sender") (x := ⟨"SignalBlind$Nurse", "tilts", "(ILjava/lang/StringBuilder;)I"⟩) X [.int p0, .ref (q p1)] rest (k_X4_tilts hω hf) rfl (by intro w hw; simp only [List.mem_cons, List.not_mem_nil, or_false] at hw; rcases hw with rfl | rfl | rfl | rfl | rfl | rfl <;> first | exact (mT_4 160 rfl rfl) | exact (mT_4 161 rfl rfl) | exact (mT_2 102 rfl rfl) | exact (mT_2 72 rfl rfl) | exact (mT_4 105 rfl rfl) | exact (mT_1 11 rfl rfl)) (mT_4 163 rfl rfl) ⟨by decide, (by decide : (parseMethodDescriptor yX4_tilts.desc).map (fun d => d.parameters.length) = some 2)⟩ hR ⟨rfl, rfl⟩ hcs hs e (by decide) rfl rfl hroom hd kk

abbrev rm_X0_tilts : Room := { frames := 4, cells := 0, slots := 0, locals := 86 }
def f_X0_tilts (h : hp) (o : Nat) (p0 : Int32) (p1 : Nat) : Option (hp × Int32) := (ckO 1 h p1 1
 (bnd (f_J4_append_cf468 h p1 (30 : Int32)) fun h2 r3 =>
 (ckS h2 o
 (bnd (f_X4_tilts h2 o (p0 * (3 : Int32)) p1) fun h6 r7 =>
 (some (h6, r7))))))
set_option maxRecDepth 100000 in
set_option maxHeartbeats 4000000 in
theorem k_X0_tilts {ω : XO} (hω : ω.2.2.2.1 = 1) {L : List Nat} {q : Nat → Nat} {h h' : hp} {o : Nat} {p0 : Int32} {p1 : Nat} {r : Int32} (hf : f_X0_tilts h o p0 p1 = some (h', r)) : XM ω yX0_tilts cX0_tilts 3 (some .int) rm_X0_tilts L q h [.ref (q o), .int p0, .ref (q p1)] (some (.int r)) h' := by
  refine XM_intro [(0, .ref (q o)), (1, .int p0), (2, .ref (q p1))] "SignalBlind$Half" (by decide) rfl rfl (Nat.le_of_ble_eq_true rfl) (fun κ X R => ?_)
  unfold f_X0_tilts at hf
  refine x_aload_n X dX0_tilts_0 2 rfl rfl ?_
  refine x_bipush X (v := 30) dX0_tilts_1 (by decide) ?_
  obtain ⟨b1, hf⟩ := ckO_some hf
  obtain ⟨h2, r3, g4, hf⟩ := bnd_some hf
  refine c_X0_9 X hω g4 (sd_of hω b1.1) b1.2 (hR := ⟨Nat.le_of_ble_eq_true rfl, Nat.le_of_ble_eq_true rfl⟩) ⟨Nat.zero_le _, Nat.zero_le _⟩ (Nat.le_of_ble_eq_true rfl) dX0_tilts_3 ?_
  refine x_pop X dX0_tilts_6 rfl ?_
  refine x_aload_n X dX0_tilts_7 0 rfl rfl ?_
  refine x_iload_n X dX0_tilts_8 1 rfl rfl ?_
  refine x_iconst X (v := 3) dX0_tilts_9 (by decide) ?_
  refine x_imul X dX0_tilts_10 ?_
  refine x_aload_n X dX0_tilts_11 2 rfl rfl ?_
  obtain ⟨b5, hf⟩ := ckS_some hf
  obtain ⟨h6, r7, g8, hf⟩ := bnd_some hf
  refine c_X0_15 X hω g8 b5 (hR := ⟨Nat.le_of_ble_eq_true rfl, Nat.le_of_ble_eq_true rfl⟩) ⟨Nat.zero_le _, Nat.zero_le _⟩ (Nat.le_of_ble_eq_true rfl) dX0_tilts_12 ?_
  exact x_retSI X R hf dX0_tilts_15

abbrev rm_X5_tilts : Room := { frames := 4, cells := 0, slots := 0, locals := 86 }
def f_X5_tilts (h : hp) (o : Nat) (p0 : Int32) (p1 : Nat) : Option (hp × Int32) := (ckO 1 h p1 1
 (bnd (f_J4_append_cf468 h p1 (50 : Int32)) fun h2 r3 =>
 (ckS h2 o
 (bnd (f_X4_tilts h2 o p0 p1) fun h6 r7 =>
 (some (h6, (-r7)))))))
set_option maxRecDepth 100000 in
set_option maxHeartbeats 4000000 in
theorem k_X5_tilts {ω : XO} (hω : ω.2.2.2.1 = 1) {L : List Nat} {q : Nat → Nat} {h h' : hp} {o : Nat} {p0 : Int32} {p1 : Nat} {r : Int32} (hf : f_X5_tilts h o p0 p1 = some (h', r)) : XM ω yX5_tilts cX5_tilts 3 (some .int) rm_X5_tilts L q h [.ref (q o), .int p0, .ref (q p1)] (some (.int r)) h' := by
  refine XM_intro [(0, .ref (q o)), (1, .int p0), (2, .ref (q p1))] "SignalBlind$Sister" (by decide) rfl rfl (Nat.le_of_ble_eq_true rfl) (fun κ X R => ?_)
  unfold f_X5_tilts at hf
  refine x_aload_n X dX5_tilts_0 2 rfl rfl ?_
  refine x_bipush X (v := 50) dX5_tilts_1 (by decide) ?_
  obtain ⟨b1, hf⟩ := ckO_some hf
  obtain ⟨h2, r3, g4, hf⟩ := bnd_some hf
  refine c_X5_17 X hω g4 (sd_of hω b1.1) b1.2 (hR := ⟨Nat.le_of_ble_eq_true rfl, Nat.le_of_ble_eq_true rfl⟩) ⟨Nat.zero_le _, Nat.zero_le _⟩ (Nat.le_of_ble_eq_true rfl) dX5_tilts_3 ?_
  refine x_pop X dX5_tilts_6 rfl ?_
  refine x_aload_n X dX5_tilts_7 0 rfl rfl ?_
  refine x_iload_n X dX5_tilts_8 1 rfl rfl ?_
  refine x_aload_n X dX5_tilts_9 2 rfl rfl ?_
  obtain ⟨b5, hf⟩ := ckS_some hf
  obtain ⟨h6, r7, g8, hf⟩ := bnd_some hf
  refine c_X5_23 X hω g8 b5 (hR := ⟨Nat.le_of_ble_eq_true rfl, Nat.le_of_ble_eq_true rfl⟩) ⟨Nat.zero_le _, Nat.zero_le _⟩ (Nat.le_of_ble_eq_true rfl) dX5_tilts_10 ?_
  refine x_ineg X dX5_tilts_13 ?_
  exact x_retSI X R hf dX5_tilts_14

abbrev rm_X8_tilts : Room := { frames := 4, cells := 0, slots := 0, locals := 86 }
def f_X8_tilts (h : hp) (o : Nat) (p0 : Int32) (p1 : Nat) : Option (hp × Int32) := (ckO 1 h p1 1
 (bnd (f_J4_append_cf468 h p1 (71 : Int32)) fun h2 r3 =>
 (ckS h2 o
 (bnd (f_X4_tilts h2 o p0 p1) fun h6 r7 =>
 (ckO 1 h6 o 10
 (some (h6, (r7 ^^^ (hI h6 o 2)))))))))
set_option maxRecDepth 100000 in
set_option maxHeartbeats 4000000 in
theorem k_X8_tilts {ω : XO} (hω : ω.2.2.2.1 = 1) {L : List Nat} {q : Nat → Nat} {h h' : hp} {o : Nat} {p0 : Int32} {p1 : Nat} {r : Int32} (hf : f_X8_tilts h o p0 p1 = some (h', r)) : XM ω yX8_tilts cX8_tilts 3 (some .int) rm_X8_tilts L q h [.ref (q o), .int p0, .ref (q p1)] (some (.int r)) h' := by
  refine XM_intro [(0, .ref (q o)), (1, .int p0), (2, .ref (q p1))] "SignalBlind$Told" (by decide) rfl rfl (Nat.le_of_ble_eq_true rfl) (fun κ X R => ?_)
  unfold f_X8_tilts at hf
  refine x_aload_n X dX8_tilts_0 2 rfl rfl ?_
  refine x_bipush X (v := 71) dX8_tilts_1 (by decide) ?_
  obtain ⟨b1, hf⟩ := ckO_some hf
  obtain ⟨h2, r3, g4, hf⟩ := bnd_some hf
  refine c_X8_11 X hω g4 (sd_of hω b1.1) b1.2 (hR := ⟨Nat.le_of_ble_eq_true rfl, Nat.le_of_ble_eq_true rfl⟩) ⟨Nat.zero_le _, Nat.zero_le _⟩ (Nat.le_of_ble_eq_true rfl) dX8_tilts_3 ?_
  refine x_pop X dX8_tilts_6 rfl ?_
  refine x_aload_n X dX8_tilts_7 0 rfl rfl ?_
  refine x_iload_n X dX8_tilts_8 1 rfl rfl ?_
  refine x_aload_n X dX8_tilts_9 2 rfl rfl ?_
  obtain ⟨b5, hf⟩ := ckS_some hf
  obtain ⟨h6, r7, g8, hf⟩ := bnd_some hf
  refine c_X8_21 X hω g8 b5 (hR := ⟨Nat.le_of_ble_eq_true rfl, Nat.le_of_ble_eq_true rfl⟩) ⟨Nat.zero_le _, Nat.zero_le _⟩ (Nat.le_of_ble_eq_true rfl) dX8_tilts_10 ?_
  refine x_aload_n X dX8_tilts_13 0 rfl rfl ?_
  obtain ⟨b9, hf⟩ := ckO_some hf
  refine x_geti X (i := o) fl_X8_24_9 (sd_of hω b9.1) b9.2 rfl dX8_tilts_14 ?_
  refine x_ixor X dX8_tilts_17 ?_
  exact x_retSI X R hf dX8_tilts_18

abbrev rm_D_tilts : Room := { frames := 4, cells := 0, slots := 0, locals := 108 }
def f_D_tilts (h : hp) (o : Nat) (a : Int32) (t : Nat) : Option (hp × Int32) := if kdOf h o = 2 then f_X0_tilts h o a t else if kdOf h o = 3 then f_X4_tilts h o a t else if kdOf h o = 6 then f_X4_tilts h o a t else if kdOf h o = 7 then f_X5_tilts h o a t else if kdOf h o = 9 then f_X4_tilts h o a t else if kdOf h o = 10 then f_X8_tilts h o a t else if kdOf h o = 12 then f_X0_tilts h o a t else none
theorem cd_X4_25 {ω : XO} {rm : Room} {nL : Nat} {κ : XK} {cc : ByteArray} (X : XC ω rm nL κ cc "SignalBlind$Sender") (hω : ω.2.2.2.1 = 1) {L : List Nat} {q : Nat → Nat} {h h1 : hp} {cells slots pc : Nat} {lv : List (Nat × Value)} {rest : List Value} {o : Nat} {a : Int32} {tr : Nat} {r : Int32} (hso : sd ω.2.2.2.1 o = true) (hf : f_D_tilts h o a tr = some (h1, r)) (hR : rm_D_tilts.frames + 1 ≤ rm.frames ∧ rm_D_tilts.locals ≤ rm.locals) (hcs : cells ≤ rm.cells ∧ slots ≤ rm.slots) (hroom : (rest.map fun v => v.category).sum ≤ 8) (hd : decode cc pc = .ok (.invokevirtual 25, 3)) (kk : XG ω rm nL κ L q h1 cells slots (pc + 3) lv (.int r :: rest)) : XG ω rm nL κ L q h cells slots pc lv (.ref (q tr) :: .int a :: .ref (q o) :: rest) := by
  unfold f_D_tilts at hf
  by_cases k2 : kdOf h o = 2
  · replace hf := (if_pos k2).symm.trans hf
    exact x_callO (owner := "SignalBlind$Sender") (x := yX4_tilts) X [.int a, .ref (q tr)] rest (k_X0_tilts hω hf) (by intro w hw; simp only [List.mem_cons, List.not_mem_nil, or_false] at hw; rcases hw with rfl | rfl | rfl | rfl | rfl | rfl <;> first | exact (mT_4 188 rfl rfl) | exact (mT_4 107 rfl rfl) | exact (mT_4 105 rfl rfl) | exact (mT_4 108 rfl rfl) | exact (mT_4 109 rfl rfl) | exact (mT_1 13 rfl rfl)) (mT_4 110 rfl rfl) (mT_4 163 rfl rfl) ⟨by decide, by decide, (by decide : (parseMethodDescriptor yX4_tilts.desc).map (fun d => d.parameters.length) = some 2)⟩ ⟨Nat.le_trans (Nat.add_le_add_right (Nat.le_of_ble_eq_true rfl : rm_X0_tilts.frames ≤ rm_D_tilts.frames) 1) hR.1, Nat.le_trans (Nat.le_of_ble_eq_true rfl : 8 + (3 + 11) + rm_X0_tilts.locals ≤ rm_D_tilts.locals) hR.2⟩ ⟨rfl, rfl⟩ hcs hso k2 (by decide) rfl rfl hroom hd kk
  replace hf := (if_neg k2).symm.trans hf
  by_cases k3 : kdOf h o = 3
  · replace hf := (if_pos k3).symm.trans hf
    exact x_callU (owner := "SignalBlind$Sender") (x := yX4_tilts) X [.int a, .ref (q tr)] rest (k_X4_tilts hω hf) (by intro w hw; simp only [List.mem_cons, List.not_mem_nil, or_false] at hw; rcases hw with rfl | rfl | rfl | rfl | rfl <;> first | exact (mT_4 188 rfl rfl) | exact (mT_4 107 rfl rfl) | exact (mT_4 147 rfl rfl) | exact (mT_4 105 rfl rfl) | exact (mT_1 11 rfl rfl)) (mT_4 163 rfl rfl) rfl ⟨by decide, by decide, (by decide : (parseMethodDescriptor yX4_tilts.desc).map (fun d => d.parameters.length) = some 2)⟩ ⟨Nat.le_trans (Nat.add_le_add_right (Nat.le_of_ble_eq_true rfl : rm_X4_tilts.frames ≤ rm_D_tilts.frames) 1) hR.1, Nat.le_trans (Nat.le_of_ble_eq_true rfl : 8 + (3 + 11) + rm_X4_tilts.locals ≤ rm_D_tilts.locals) hR.2⟩ ⟨rfl, rfl⟩ hcs hso k3 (by decide) rfl rfl hroom hd kk
  replace hf := (if_neg k3).symm.trans hf
  by_cases k6 : kdOf h o = 6
  · replace hf := (if_pos k6).symm.trans hf
    exact x_callV X [.int a, .ref (q tr)] rest (k_X4_tilts hω hf) mt_X4_tilts (mT_4 188 rfl rfl) ⟨Nat.le_trans (Nat.add_le_add_right (Nat.le_of_ble_eq_true rfl : rm_X4_tilts.frames ≤ rm_D_tilts.frames) 1) hR.1, Nat.le_trans (Nat.le_of_ble_eq_true rfl : 8 + (3 + 11) + rm_X4_tilts.locals ≤ rm_D_tilts.locals) hR.2⟩ ⟨rfl, rfl⟩ hcs hso k6 (by decide) rfl rfl hroom hd kk
  replace hf := (if_neg k6).symm.trans hf
  by_cases k7 : kdOf h o = 7
  · replace hf := (if_pos k7).symm.trans hf
    exact x_callO (owner := "SignalBlind$Sender") (x := yX4_tilts) X [.int a, .ref (q tr)] rest (k_X5_tilts hω hf) (by intro w hw; simp only [List.mem_cons, List.not_mem_nil, or_false] at hw; rcases hw with rfl | rfl | rfl | rfl | rfl | rfl <;> first | exact (mT_4 188 rfl rfl) | exact (mT_4 107 rfl rfl) | exact (mT_4 105 rfl rfl) | exact (mT_4 148 rfl rfl) | exact (mT_4 149 rfl rfl) | exact (mT_1 15 rfl rfl)) (mT_4 150 rfl rfl) (mT_4 163 rfl rfl) ⟨by decide, by decide, (by decide : (parseMethodDescriptor yX4_tilts.desc).map (fun d => d.parameters.length) = some 2)⟩ ⟨Nat.le_trans (Nat.add_le_add_right (Nat.le_of_ble_eq_true rfl : rm_X5_tilts.frames ≤ rm_D_tilts.frames) 1) hR.1, Nat.le_trans (Nat.le_of_ble_eq_true rfl : 8 + (3 + 11) + rm_X5_tilts.locals ≤ rm_D_tilts.locals) hR.2⟩ ⟨rfl, rfl⟩ hcs hso k7 (by decide) rfl rfl hroom hd kk
  replace hf := (if_neg k7).symm.trans hf
  by_cases k9 : kdOf h o = 9
  · replace hf := (if_pos k9).symm.trans hf
    exact x_callU (owner := "SignalBlind$Sender") (x := yX4_tilts) X [.int a, .ref (q tr)] rest (k_X4_tilts hω hf) (by intro w hw; simp only [List.mem_cons, List.not_mem_nil, or_false] at hw; rcases hw with rfl | rfl | rfl | rfl | rfl <;> first | exact (mT_4 188 rfl rfl) | exact (mT_4 107 rfl rfl) | exact (mT_4 155 rfl rfl) | exact (mT_4 105 rfl rfl) | exact (mT_1 11 rfl rfl)) (mT_4 163 rfl rfl) rfl ⟨by decide, by decide, (by decide : (parseMethodDescriptor yX4_tilts.desc).map (fun d => d.parameters.length) = some 2)⟩ ⟨Nat.le_trans (Nat.add_le_add_right (Nat.le_of_ble_eq_true rfl : rm_X4_tilts.frames ≤ rm_D_tilts.frames) 1) hR.1, Nat.le_trans (Nat.le_of_ble_eq_true rfl : 8 + (3 + 11) + rm_X4_tilts.locals ≤ rm_D_tilts.locals) hR.2⟩ ⟨rfl, rfl⟩ hcs hso k9 (by decide) rfl rfl hroom hd kk
  replace hf := (if_neg k9).symm.trans hf
  by_cases k10 : kdOf h o = 10
  · replace hf := (if_pos k10).symm.trans hf
    exact x_callO (owner := "SignalBlind$Sender") (x := yX4_tilts) X [.int a, .ref (q tr)] rest (k_X8_tilts hω hf) (by intro w hw; simp only [List.mem_cons, List.not_mem_nil, or_false] at hw; rcases hw with rfl | rfl | rfl | rfl | rfl | rfl <;> first | exact (mT_4 188 rfl rfl) | exact (mT_4 107 rfl rfl) | exact (mT_4 105 rfl rfl) | exact (mT_4 156 rfl rfl) | exact (mT_4 157 rfl rfl) | exact (mT_1 17 rfl rfl)) (mT_4 158 rfl rfl) (mT_4 163 rfl rfl) ⟨by decide, by decide, (by decide : (parseMethodDescriptor yX4_tilts.desc).map (fun d => d.parameters.length) = some 2)⟩ ⟨Nat.le_trans (Nat.add_le_add_right (Nat.le_of_ble_eq_true rfl : rm_X8_tilts.frames ≤ rm_D_tilts.frames) 1) hR.1, Nat.le_trans (Nat.le_of_ble_eq_true rfl : 8 + (3 + 11) + rm_X8_tilts.locals ≤ rm_D_tilts.locals) hR.2⟩ ⟨rfl, rfl⟩ hcs hso k10 (by decide) rfl rfl hroom hd kk
  replace hf := (if_neg k10).symm.trans hf
  by_cases k12 : kdOf h o = 12
  · replace hf := (if_pos k12).symm.trans hf
    exact x_callO (owner := "SignalBlind$Sender") (x := yX4_tilts) X [.int a, .ref (q tr)] rest (k_X0_tilts hω hf) (by intro w hw; simp only [List.mem_cons, List.not_mem_nil, or_false] at hw; rcases hw with rfl | rfl | rfl | rfl | rfl | rfl <;> first | exact (mT_4 188 rfl rfl) | exact (mT_4 107 rfl rfl) | exact (mT_4 105 rfl rfl) | exact (mT_4 162 rfl rfl) | exact (mT_4 109 rfl rfl) | exact (mT_1 13 rfl rfl)) (mT_4 110 rfl rfl) (mT_4 163 rfl rfl) ⟨by decide, by decide, (by decide : (parseMethodDescriptor yX4_tilts.desc).map (fun d => d.parameters.length) = some 2)⟩ ⟨Nat.le_trans (Nat.add_le_add_right (Nat.le_of_ble_eq_true rfl : rm_X0_tilts.frames ≤ rm_D_tilts.frames) 1) hR.1, Nat.le_trans (Nat.le_of_ble_eq_true rfl : 8 + (3 + 11) + rm_X0_tilts.locals ≤ rm_D_tilts.locals) hR.2⟩ ⟨rfl, rfl⟩ hcs hso k12 (by decide) rfl rfl hroom hd kk
  replace hf := (if_neg k12).symm.trans hf
  cases hf
theorem cd_X11_235 {ω : XO} {rm : Room} {nL : Nat} {κ : XK} {cc : ByteArray} (X : XC ω rm nL κ cc "SignalBlind") (hω : ω.2.2.2.1 = 1) {L : List Nat} {q : Nat → Nat} {h h1 : hp} {cells slots pc : Nat} {lv : List (Nat × Value)} {rest : List Value} {o : Nat} {a : Int32} {tr : Nat} {r : Int32} (hso : sd ω.2.2.2.1 o = true) (hf : f_D_tilts h o a tr = some (h1, r)) (hR : rm_D_tilts.frames + 1 ≤ rm.frames ∧ rm_D_tilts.locals ≤ rm.locals) (hcs : cells ≤ rm.cells ∧ slots ≤ rm.slots) (hroom : (rest.map fun v => v.category).sum ≤ 8) (hd : decode cc pc = .ok (.invokevirtual 235, 3)) (kk : XG ω rm nL κ L q h1 cells slots (pc + 3) lv (.int r :: rest)) : XG ω rm nL κ L q h cells slots pc lv (.ref (q tr) :: .int a :: .ref (q o) :: rest) := by
  unfold f_D_tilts at hf
  by_cases k2 : kdOf h o = 2
  · replace hf := (if_pos k2).symm.trans hf
    exact x_callO (owner := "SignalBlind$Sender") (x := yX4_tilts) X [.int a, .ref (q tr)] rest (k_X0_tilts hω hf) (by intro w hw; simp only [List.mem_cons, List.not_mem_nil, or_false] at hw; rcases hw with rfl | rfl | rfl | rfl | rfl | rfl <;> first | exact (mT_4 104 rfl rfl) | exact (mT_4 107 rfl rfl) | exact (mT_4 105 rfl rfl) | exact (mT_4 108 rfl rfl) | exact (mT_4 109 rfl rfl) | exact (mT_1 13 rfl rfl)) (mT_4 110 rfl rfl) (mT_4 163 rfl rfl) ⟨by decide, by decide, (by decide : (parseMethodDescriptor yX4_tilts.desc).map (fun d => d.parameters.length) = some 2)⟩ ⟨Nat.le_trans (Nat.add_le_add_right (Nat.le_of_ble_eq_true rfl : rm_X0_tilts.frames ≤ rm_D_tilts.frames) 1) hR.1, Nat.le_trans (Nat.le_of_ble_eq_true rfl : 8 + (3 + 11) + rm_X0_tilts.locals ≤ rm_D_tilts.locals) hR.2⟩ ⟨rfl, rfl⟩ hcs hso k2 (by decide) rfl rfl hroom hd kk
  replace hf := (if_neg k2).symm.trans hf
  by_cases k3 : kdOf h o = 3
  · replace hf := (if_pos k3).symm.trans hf
    exact x_callU (owner := "SignalBlind$Sender") (x := yX4_tilts) X [.int a, .ref (q tr)] rest (k_X4_tilts hω hf) (by intro w hw; simp only [List.mem_cons, List.not_mem_nil, or_false] at hw; rcases hw with rfl | rfl | rfl | rfl | rfl <;> first | exact (mT_4 104 rfl rfl) | exact (mT_4 107 rfl rfl) | exact (mT_4 147 rfl rfl) | exact (mT_4 105 rfl rfl) | exact (mT_1 11 rfl rfl)) (mT_4 163 rfl rfl) rfl ⟨by decide, by decide, (by decide : (parseMethodDescriptor yX4_tilts.desc).map (fun d => d.parameters.length) = some 2)⟩ ⟨Nat.le_trans (Nat.add_le_add_right (Nat.le_of_ble_eq_true rfl : rm_X4_tilts.frames ≤ rm_D_tilts.frames) 1) hR.1, Nat.le_trans (Nat.le_of_ble_eq_true rfl : 8 + (3 + 11) + rm_X4_tilts.locals ≤ rm_D_tilts.locals) hR.2⟩ ⟨rfl, rfl⟩ hcs hso k3 (by decide) rfl rfl hroom hd kk
  replace hf := (if_neg k3).symm.trans hf
  by_cases k6 : kdOf h o = 6
  · replace hf := (if_pos k6).symm.trans hf
    exact x_callV X [.int a, .ref (q tr)] rest (k_X4_tilts hω hf) mt_X4_tilts (mT_4 104 rfl rfl) ⟨Nat.le_trans (Nat.add_le_add_right (Nat.le_of_ble_eq_true rfl : rm_X4_tilts.frames ≤ rm_D_tilts.frames) 1) hR.1, Nat.le_trans (Nat.le_of_ble_eq_true rfl : 8 + (3 + 11) + rm_X4_tilts.locals ≤ rm_D_tilts.locals) hR.2⟩ ⟨rfl, rfl⟩ hcs hso k6 (by decide) rfl rfl hroom hd kk
  replace hf := (if_neg k6).symm.trans hf
  by_cases k7 : kdOf h o = 7
  · replace hf := (if_pos k7).symm.trans hf
    exact x_callO (owner := "SignalBlind$Sender") (x := yX4_tilts) X [.int a, .ref (q tr)] rest (k_X5_tilts hω hf) (by intro w hw; simp only [List.mem_cons, List.not_mem_nil, or_false] at hw; rcases hw with rfl | rfl | rfl | rfl | rfl | rfl <;> first | exact (mT_4 104 rfl rfl) | exact (mT_4 107 rfl rfl) | exact (mT_4 105 rfl rfl) | exact (mT_4 148 rfl rfl) | exact (mT_4 149 rfl rfl) | exact (mT_1 15 rfl rfl)) (mT_4 150 rfl rfl) (mT_4 163 rfl rfl) ⟨by decide, by decide, (by decide : (parseMethodDescriptor yX4_tilts.desc).map (fun d => d.parameters.length) = some 2)⟩ ⟨Nat.le_trans (Nat.add_le_add_right (Nat.le_of_ble_eq_true rfl : rm_X5_tilts.frames ≤ rm_D_tilts.frames) 1) hR.1, Nat.le_trans (Nat.le_of_ble_eq_true rfl : 8 + (3 + 11) + rm_X5_tilts.locals ≤ rm_D_tilts.locals) hR.2⟩ ⟨rfl, rfl⟩ hcs hso k7 (by decide) rfl rfl hroom hd kk
  replace hf := (if_neg k7).symm.trans hf
  by_cases k9 : kdOf h o = 9
  · replace hf := (if_pos k9).symm.trans hf
    exact x_callU (owner := "SignalBlind$Sender") (x := yX4_tilts) X [.int a, .ref (q tr)] rest (k_X4_tilts hω hf) (by intro w hw; simp only [List.mem_cons, List.not_mem_nil, or_false] at hw; rcases hw with rfl | rfl | rfl | rfl | rfl <;> first | exact (mT_4 104 rfl rfl) | exact (mT_4 107 rfl rfl) | exact (mT_4 155 rfl rfl) | exact (mT_4 105 rfl rfl) | exact (mT_1 11 rfl rfl)) (mT_4 163 rfl rfl) rfl ⟨by decide, by decide, (by decide : (parseMethodDescriptor yX4_tilts.desc).map (fun d => d.parameters.length) = some 2)⟩ ⟨Nat.le_trans (Nat.add_le_add_right (Nat.le_of_ble_eq_true rfl : rm_X4_tilts.frames ≤ rm_D_tilts.frames) 1) hR.1, Nat.le_trans (Nat.le_of_ble_eq_true rfl : 8 + (3 + 11) + rm_X4_tilts.locals ≤ rm_D_tilts.locals) hR.2⟩ ⟨rfl, rfl⟩ hcs hso k9 (by decide) rfl rfl hroom hd kk
  replace hf := (if_neg k9).symm.trans hf
  by_cases k10 : kdOf h o = 10
  · replace hf := (if_pos k10).symm.trans hf
    exact x_callO (owner := "SignalBlind$Sender") (x := yX4_tilts) X [.int a, .ref (q tr)] rest (k_X8_tilts hω hf) (by intro w hw; simp only [List.mem_cons, List.not_mem_nil, or_false] at hw; rcases hw with rfl | rfl | rfl | rfl | rfl | rfl <;> first | exact (mT_4 104 rfl rfl) | exact (mT_4 107 rfl rfl) | exact (mT_4 105 rfl rfl) | exact (mT_4 156 rfl rfl) | exact (mT_4 157 rfl rfl) | exact (mT_1 17 rfl rfl)) (mT_4 158 rfl rfl) (mT_4 163 rfl rfl) ⟨by decide, by decide, (by decide : (parseMethodDescriptor yX4_tilts.desc).map (fun d => d.parameters.length) = some 2)⟩ ⟨Nat.le_trans (Nat.add_le_add_right (Nat.le_of_ble_eq_true rfl : rm_X8_tilts.frames ≤ rm_D_tilts.frames) 1) hR.1, Nat.le_trans (Nat.le_of_ble_eq_true rfl : 8 + (3 + 11) + rm_X8_tilts.locals ≤ rm_D_tilts.locals) hR.2⟩ ⟨rfl, rfl⟩ hcs hso k10 (by decide) rfl rfl hroom hd kk
  replace hf := (if_neg k10).symm.trans hf
  by_cases k12 : kdOf h o = 12
  · replace hf := (if_pos k12).symm.trans hf
    exact x_callO (owner := "SignalBlind$Sender") (x := yX4_tilts) X [.int a, .ref (q tr)] rest (k_X0_tilts hω hf) (by intro w hw; simp only [List.mem_cons, List.not_mem_nil, or_false] at hw; rcases hw with rfl | rfl | rfl | rfl | rfl | rfl <;> first | exact (mT_4 104 rfl rfl) | exact (mT_4 107 rfl rfl) | exact (mT_4 105 rfl rfl) | exact (mT_4 162 rfl rfl) | exact (mT_4 109 rfl rfl) | exact (mT_1 13 rfl rfl)) (mT_4 110 rfl rfl) (mT_4 163 rfl rfl) ⟨by decide, by decide, (by decide : (parseMethodDescriptor yX4_tilts.desc).map (fun d => d.parameters.length) = some 2)⟩ ⟨Nat.le_trans (Nat.add_le_add_right (Nat.le_of_ble_eq_true rfl : rm_X0_tilts.frames ≤ rm_D_tilts.frames) 1) hR.1, Nat.le_trans (Nat.le_of_ble_eq_true rfl : 8 + (3 + 11) + rm_X0_tilts.locals ≤ rm_D_tilts.locals) hR.2⟩ ⟨rfl, rfl⟩ hcs hso k12 (by decide) rfl rfl hroom hd kk
  replace hf := (if_neg k12).symm.trans hf
  cases hf

abbrev rm_X4_sends : Room := { frames := 5, cells := 0, slots := 0, locals := 108 }
def f_X4_sends (h : hp) (o : Nat) (p0 : Int32) (p1 : Nat) : Option (hp × Int32) := (ckO 1 h p1 1
 (bnd (f_J4_append_cf468 h p1 (11 : Int32)) fun h2 r3 =>
 (ckS h2 o
 (bnd (f_D_tilts h2 o p0 p1) fun h6 r7 =>
 (ckS h6 o
 (some (h6, (r7 - (hI h6 o 2)))))))))
set_option maxRecDepth 100000 in
set_option maxHeartbeats 4000000 in
theorem k_X4_sends {ω : XO} (hω : ω.2.2.2.1 = 1) {L : List Nat} {q : Nat → Nat} {h h' : hp} {o : Nat} {p0 : Int32} {p1 : Nat} {r : Int32} (hf : f_X4_sends h o p0 p1 = some (h', r)) : XM ω yX4_sends cX4_sends 3 (some .int) rm_X4_sends L q h [.ref (q o), .int p0, .ref (q p1)] (some (.int r)) h' := by
  refine XM_intro [(0, .ref (q o)), (1, .int p0), (2, .ref (q p1))] "SignalBlind$Sender" (by decide) rfl rfl (Nat.le_of_ble_eq_true rfl) (fun κ X R => ?_)
  unfold f_X4_sends at hf
  refine x_aload_n X dX4_sends_0 2 rfl rfl ?_
  refine x_bipush X (v := 11) dX4_sends_1 (by decide) ?_
  obtain ⟨b1, hf⟩ := ckO_some hf
  obtain ⟨h2, r3, g4, hf⟩ := bnd_some hf
  refine c_X4_19 X hω g4 (sd_of hω b1.1) b1.2 (hR := ⟨Nat.le_of_ble_eq_true rfl, Nat.le_of_ble_eq_true rfl⟩) ⟨Nat.zero_le _, Nat.zero_le _⟩ (Nat.le_of_ble_eq_true rfl) dX4_sends_3 ?_
  refine x_pop X dX4_sends_6 rfl ?_
  refine x_aload_n X dX4_sends_7 0 rfl rfl ?_
  refine x_iload_n X dX4_sends_8 1 rfl rfl ?_
  refine x_aload_n X dX4_sends_9 2 rfl rfl ?_
  obtain ⟨b5, hf⟩ := ckS_some hf
  obtain ⟨h6, r7, g8, hf⟩ := bnd_some hf
  refine cd_X4_25 X hω (sd_of hω b5.1) g8 (hR := ⟨Nat.le_of_ble_eq_true rfl, Nat.le_of_ble_eq_true rfl⟩) ⟨Nat.zero_le _, Nat.zero_le _⟩ (Nat.le_of_ble_eq_true rfl) dX4_sends_10 ?_
  refine x_aload_n X dX4_sends_13 0 rfl rfl ?_
  obtain ⟨b9, hf⟩ := ckS_some hf
  refine x_getS_X4_16 X hω b9 dX4_sends_14 ?_
  refine x_isub X dX4_sends_17 ?_
  exact x_retSI X R hf dX4_sends_18
theorem mt_X4_sends : MT yX4_sends cX4_sends 3 (some .int) "SignalBlind$Sender" 2 := ⟨(mT_4 166 rfl rfl), (mT_4 167 rfl rfl), (mT_1 11 rfl rfl), (mT_4 187 rfl rfl), by decide⟩
theorem c_X7_19 {ω : XO} {rm : Room} {nL : Nat} {κ : XK} {cc : ByteArray} (X : XC ω rm nL κ cc "SignalBlind$Tilted") (hω : ω.2.2.2.1 = 1) {L : List Nat} {q : Nat → Nat} {h h' : hp} {cells slots pc : Nat} {lv : List (Nat × Value)} {rest : List Value} {o : Nat} {p0 : Int32} {p1 : Nat} {r : Int32} (hf : f_X4_sends h o p0 p1 = some (h', r)) (hb : sd 1 o = true ∧ kdOf h o ∈ sndK) (hR : rm_X4_sends.frames + 1 ≤ rm.frames ∧ 8 + (3 + 11) + rm_X4_sends.locals ≤ rm.locals) (hcs : cells ≤ rm.cells ∧ slots ≤ rm.slots) (hroom : (rest.map fun v => v.category).sum ≤ 8) (hd : decode cc pc = .ok (.invokespecial 19, 3)) (kk : XG ω rm nL κ L q h' cells slots (pc + 3) lv (.int r :: rest)) : XG ω rm nL κ L q h cells slots pc lv (.ref (q p1) :: .int p0 :: .ref (q o) :: rest) := by
  have hs := sd_of hω hb.1
  rcases snd_cases hb.2 with e | e | e | e | e | e | e <;> exact x_callSU X [.int p0, .ref (q p1)] rest (k_X4_sends hω hf) (by intro w hw; simp only [List.mem_cons, List.not_mem_nil, or_false] at hw; rcases hw with rfl | rfl | rfl | rfl | rfl <;> first | exact (mT_4 178 rfl rfl) | exact (mT_4 168 rfl rfl) | exact (mT_2 52 rfl rfl) | exact (mT_4 166 rfl rfl) | exact (mT_1 11 rfl rfl)) (mT_4 187 rfl rfl) ⟨by decide, (by decide : (parseMethodDescriptor yX4_sends.desc).map (fun d => d.parameters.length) = some 2)⟩ hR ⟨rfl, rfl⟩ hcs hs e (by decide) rfl rfl hroom hd kk
theorem c_X8_17 {ω : XO} {rm : Room} {nL : Nat} {κ : XK} {cc : ByteArray} (X : XC ω rm nL κ cc "SignalBlind$Told") (hω : ω.2.2.2.1 = 1) {L : List Nat} {q : Nat → Nat} {h h' : hp} {cells slots pc : Nat} {lv : List (Nat × Value)} {rest : List Value} {o : Nat} {p0 : Int32} {p1 : Nat} {r : Int32} (hf : f_X4_sends h o p0 p1 = some (h', r)) (hb : sd 1 o = true ∧ kdOf h o ∈ sndK) (hR : rm_X4_sends.frames + 1 ≤ rm.frames ∧ 8 + (3 + 11) + rm_X4_sends.locals ≤ rm.locals) (hcs : cells ≤ rm.cells ∧ slots ≤ rm.slots) (hroom : (rest.map fun v => v.category).sum ≤ 8) (hd : decode cc pc = .ok (.invokespecial 17, 3)) (kk : XG ω rm nL κ L q h' cells slots (pc + 3) lv (.int r :: rest)) : XG ω rm nL κ L q h cells slots pc lv (.ref (q p1) :: .int p0 :: .ref (q o) :: rest) := by
  have hs := sd_of hω hb.1
  rcases snd_cases hb.2 with e | e | e | e | e | e | e <;> exact x_callSI (owner := "SignalBlind$Sender") (x := ⟨"SignalBlind$Nurse", "sends", "(ILjava/lang/StringBuilder;)I"⟩) X [.int p0, .ref (q p1)] rest (k_X4_sends hω hf) rfl (by intro w hw; simp only [List.mem_cons, List.not_mem_nil, or_false] at hw; rcases hw with rfl | rfl | rfl | rfl | rfl | rfl <;> first | exact (mT_4 183 rfl rfl) | exact (mT_4 184 rfl rfl) | exact (mT_2 102 rfl rfl) | exact (mT_2 72 rfl rfl) | exact (mT_4 166 rfl rfl) | exact (mT_1 11 rfl rfl)) (mT_4 187 rfl rfl) ⟨by decide, (by decide : (parseMethodDescriptor yX4_sends.desc).map (fun d => d.parameters.length) = some 2)⟩ hR ⟨rfl, rfl⟩ hcs hs e (by decide) rfl rfl hroom hd kk

abbrev rm_X7_sends : Room := { frames := 6, cells := 0, slots := 0, locals := 130 }
def f_X7_sends (h : hp) (o : Nat) (p0 : Int32) (p1 : Nat) : Option (hp × Int32) := (ckO 1 h p1 1
 (bnd (f_J4_append_cf468 h p1 (20 : Int32)) fun h2 r3 =>
 (ckS h2 o
 (bnd (f_X4_sends h2 o p0 p1) fun h6 r7 =>
 (some (h6, (r7 ^^^ (6 : Int32))))))))
set_option maxRecDepth 100000 in
set_option maxHeartbeats 4000000 in
theorem k_X7_sends {ω : XO} (hω : ω.2.2.2.1 = 1) {L : List Nat} {q : Nat → Nat} {h h' : hp} {o : Nat} {p0 : Int32} {p1 : Nat} {r : Int32} (hf : f_X7_sends h o p0 p1 = some (h', r)) : XM ω yX7_sends cX7_sends 3 (some .int) rm_X7_sends L q h [.ref (q o), .int p0, .ref (q p1)] (some (.int r)) h' := by
  refine XM_intro [(0, .ref (q o)), (1, .int p0), (2, .ref (q p1))] "SignalBlind$Tilted" (by decide) rfl rfl (Nat.le_of_ble_eq_true rfl) (fun κ X R => ?_)
  unfold f_X7_sends at hf
  refine x_aload_n X dX7_sends_0 2 rfl rfl ?_
  refine x_bipush X (v := 20) dX7_sends_1 (by decide) ?_
  obtain ⟨b1, hf⟩ := ckO_some hf
  obtain ⟨h2, r3, g4, hf⟩ := bnd_some hf
  refine c_X7_13 X hω g4 (sd_of hω b1.1) b1.2 (hR := ⟨Nat.le_of_ble_eq_true rfl, Nat.le_of_ble_eq_true rfl⟩) ⟨Nat.zero_le _, Nat.zero_le _⟩ (Nat.le_of_ble_eq_true rfl) dX7_sends_3 ?_
  refine x_pop X dX7_sends_6 rfl ?_
  refine x_aload_n X dX7_sends_7 0 rfl rfl ?_
  refine x_iload_n X dX7_sends_8 1 rfl rfl ?_
  refine x_aload_n X dX7_sends_9 2 rfl rfl ?_
  obtain ⟨b5, hf⟩ := ckS_some hf
  obtain ⟨h6, r7, g8, hf⟩ := bnd_some hf
  refine c_X7_19 X hω g8 b5 (hR := ⟨Nat.le_of_ble_eq_true rfl, Nat.le_of_ble_eq_true rfl⟩) ⟨Nat.zero_le _, Nat.zero_le _⟩ (Nat.le_of_ble_eq_true rfl) dX7_sends_10 ?_
  refine x_bipush X (v := 6) dX7_sends_13 (by decide) ?_
  refine x_ixor X dX7_sends_15 ?_
  exact x_retSI X R hf dX7_sends_16
theorem c_X5_27 {ω : XO} {rm : Room} {nL : Nat} {κ : XK} {cc : ByteArray} (X : XC ω rm nL κ cc "SignalBlind$Sister") (hω : ω.2.2.2.1 = 1) {L : List Nat} {q : Nat → Nat} {h h' : hp} {cells slots pc : Nat} {lv : List (Nat × Value)} {rest : List Value} {o : Nat} {p0 : Int32} {p1 : Nat} {r : Int32} (hf : f_X7_sends h o p0 p1 = some (h', r)) (hb : sd 1 o = true ∧ kdOf h o ∈ sndK) (hR : rm_X7_sends.frames + 1 ≤ rm.frames ∧ 8 + (3 + 11) + rm_X7_sends.locals ≤ rm.locals) (hcs : cells ≤ rm.cells ∧ slots ≤ rm.slots) (hroom : (rest.map fun v => v.category).sum ≤ 8) (hd : decode cc pc = .ok (.invokespecial 27, 3)) (kk : XG ω rm nL κ L q h' cells slots (pc + 3) lv (.int r :: rest)) : XG ω rm nL κ L q h cells slots pc lv (.ref (q p1) :: .int p0 :: .ref (q o) :: rest) := by
  have hs := sd_of hω hb.1
  rcases snd_cases hb.2 with e | e | e | e | e | e | e <;> exact x_callSU X [.int p0, .ref (q p1)] rest (k_X7_sends hω hf) (by intro w hw; simp only [List.mem_cons, List.not_mem_nil, or_false] at hw; rcases hw with rfl | rfl | rfl | rfl | rfl <;> first | exact (mT_4 174 rfl rfl) | exact (mT_7 102 rfl rfl) | exact (mT_2 82 rfl rfl) | exact (mT_4 175 rfl rfl) | exact (mT_1 12 rfl rfl)) (mT_4 176 rfl rfl) ⟨by decide, (by decide : (parseMethodDescriptor yX7_sends.desc).map (fun d => d.parameters.length) = some 2)⟩ hR ⟨rfl, rfl⟩ hcs hs e (by decide) rfl rfl hroom hd kk

abbrev rm_X5_sends : Room := { frames := 7, cells := 0, slots := 0, locals := 152 }
def f_X5_sends (h : hp) (o : Nat) (p0 : Int32) (p1 : Nat) : Option (hp × Int32) := (ckO 1 h p1 1
 (bnd (f_J4_append_cf468 h p1 (51 : Int32)) fun h2 r3 =>
 (ckS h2 o
 (bnd (f_X7_sends h2 o (p0 + (1 : Int32)) p1) fun h6 r7 =>
 (some (h6, r7))))))
set_option maxRecDepth 100000 in
set_option maxHeartbeats 4000000 in
theorem k_X5_sends {ω : XO} (hω : ω.2.2.2.1 = 1) {L : List Nat} {q : Nat → Nat} {h h' : hp} {o : Nat} {p0 : Int32} {p1 : Nat} {r : Int32} (hf : f_X5_sends h o p0 p1 = some (h', r)) : XM ω yX5_sends cX5_sends 3 (some .int) rm_X5_sends L q h [.ref (q o), .int p0, .ref (q p1)] (some (.int r)) h' := by
  refine XM_intro [(0, .ref (q o)), (1, .int p0), (2, .ref (q p1))] "SignalBlind$Sister" (by decide) rfl rfl (Nat.le_of_ble_eq_true rfl) (fun κ X R => ?_)
  unfold f_X5_sends at hf
  refine x_aload_n X dX5_sends_0 2 rfl rfl ?_
  refine x_bipush X (v := 51) dX5_sends_1 (by decide) ?_
  obtain ⟨b1, hf⟩ := ckO_some hf
  obtain ⟨h2, r3, g4, hf⟩ := bnd_some hf
  refine c_X5_17 X hω g4 (sd_of hω b1.1) b1.2 (hR := ⟨Nat.le_of_ble_eq_true rfl, Nat.le_of_ble_eq_true rfl⟩) ⟨Nat.zero_le _, Nat.zero_le _⟩ (Nat.le_of_ble_eq_true rfl) dX5_sends_3 ?_
  refine x_pop X dX5_sends_6 rfl ?_
  refine x_aload_n X dX5_sends_7 0 rfl rfl ?_
  refine x_iload_n X dX5_sends_8 1 rfl rfl ?_
  refine x_iconst X (v := 1) dX5_sends_9 (by decide) ?_
  refine x_iadd X dX5_sends_10 ?_
  refine x_aload_n X dX5_sends_11 2 rfl rfl ?_
  obtain ⟨b5, hf⟩ := ckS_some hf
  obtain ⟨h6, r7, g8, hf⟩ := bnd_some hf
  refine c_X5_27 X hω g8 b5 (hR := ⟨Nat.le_of_ble_eq_true rfl, Nat.le_of_ble_eq_true rfl⟩) ⟨Nat.zero_le _, Nat.zero_le _⟩ (Nat.le_of_ble_eq_true rfl) dX5_sends_12 ?_
  exact x_retSI X R hf dX5_sends_15

abbrev rm_X8_sends : Room := { frames := 6, cells := 0, slots := 0, locals := 130 }
def f_X8_sends (h : hp) (o : Nat) (p0 : Int32) (p1 : Nat) : Option (hp × Int32) := (ckO 1 h p1 1
 (bnd (f_J4_append_cf468 h p1 (70 : Int32)) fun h2 r3 =>
 (ckS h2 o
 (bnd (f_X4_sends h2 o p0 p1) fun h6 r7 =>
 (ckS h6 o
 (bnd (f_X4_tilts h6 o (2 : Int32) p1) fun h10 r11 =>
 (some (h10, (r7 + r11)))))))))
set_option maxRecDepth 100000 in
set_option maxHeartbeats 4000000 in
theorem k_X8_sends {ω : XO} (hω : ω.2.2.2.1 = 1) {L : List Nat} {q : Nat → Nat} {h h' : hp} {o : Nat} {p0 : Int32} {p1 : Nat} {r : Int32} (hf : f_X8_sends h o p0 p1 = some (h', r)) : XM ω yX8_sends cX8_sends 3 (some .int) rm_X8_sends L q h [.ref (q o), .int p0, .ref (q p1)] (some (.int r)) h' := by
  refine XM_intro [(0, .ref (q o)), (1, .int p0), (2, .ref (q p1))] "SignalBlind$Told" (by decide) rfl rfl (Nat.le_of_ble_eq_true rfl) (fun κ X R => ?_)
  unfold f_X8_sends at hf
  refine x_aload_n X dX8_sends_0 2 rfl rfl ?_
  refine x_bipush X (v := 70) dX8_sends_1 (by decide) ?_
  obtain ⟨b1, hf⟩ := ckO_some hf
  obtain ⟨h2, r3, g4, hf⟩ := bnd_some hf
  refine c_X8_11 X hω g4 (sd_of hω b1.1) b1.2 (hR := ⟨Nat.le_of_ble_eq_true rfl, Nat.le_of_ble_eq_true rfl⟩) ⟨Nat.zero_le _, Nat.zero_le _⟩ (Nat.le_of_ble_eq_true rfl) dX8_sends_3 ?_
  refine x_pop X dX8_sends_6 rfl ?_
  refine x_aload_n X dX8_sends_7 0 rfl rfl ?_
  refine x_iload_n X dX8_sends_8 1 rfl rfl ?_
  refine x_aload_n X dX8_sends_9 2 rfl rfl ?_
  obtain ⟨b5, hf⟩ := ckS_some hf
  obtain ⟨h6, r7, g8, hf⟩ := bnd_some hf
  refine c_X8_17 X hω g8 b5 (hR := ⟨Nat.le_of_ble_eq_true rfl, Nat.le_of_ble_eq_true rfl⟩) ⟨Nat.zero_le _, Nat.zero_le _⟩ (Nat.le_of_ble_eq_true rfl) dX8_sends_10 ?_
  refine x_aload_n X dX8_sends_13 0 rfl rfl ?_
  refine x_iconst X (v := 2) dX8_sends_14 (by decide) ?_
  refine x_aload_n X dX8_sends_15 2 rfl rfl ?_
  obtain ⟨b9, hf⟩ := ckS_some hf
  obtain ⟨h10, r11, g12, hf⟩ := bnd_some hf
  refine c_X8_21 X hω g12 b9 (hR := ⟨Nat.le_of_ble_eq_true rfl, Nat.le_of_ble_eq_true rfl⟩) ⟨Nat.zero_le _, Nat.zero_le _⟩ (Nat.le_of_ble_eq_true rfl) dX8_sends_16 ?_
  refine x_iadd X dX8_sends_19 ?_
  exact x_retSI X R hf dX8_sends_20

abbrev rm_D_sends : Room := { frames := 7, cells := 0, slots := 0, locals := 174 }
def f_D_sends (h : hp) (o : Nat) (a : Int32) (t : Nat) : Option (hp × Int32) := if kdOf h o = 2 then f_X4_sends h o a t else if kdOf h o = 3 then f_X4_sends h o a t else if kdOf h o = 6 then f_X4_sends h o a t else if kdOf h o = 7 then f_X5_sends h o a t else if kdOf h o = 9 then f_X7_sends h o a t else if kdOf h o = 10 then f_X8_sends h o a t else if kdOf h o = 12 then f_X4_sends h o a t else none
theorem cd_X4_29 {ω : XO} {rm : Room} {nL : Nat} {κ : XK} {cc : ByteArray} (X : XC ω rm nL κ cc "SignalBlind$Sender") (hω : ω.2.2.2.1 = 1) {L : List Nat} {q : Nat → Nat} {h h1 : hp} {cells slots pc : Nat} {lv : List (Nat × Value)} {rest : List Value} {o : Nat} {a : Int32} {tr : Nat} {r : Int32} (hso : sd ω.2.2.2.1 o = true) (hf : f_D_sends h o a tr = some (h1, r)) (hR : rm_D_sends.frames + 1 ≤ rm.frames ∧ rm_D_sends.locals ≤ rm.locals) (hcs : cells ≤ rm.cells ∧ slots ≤ rm.slots) (hroom : (rest.map fun v => v.category).sum ≤ 8) (hd : decode cc pc = .ok (.invokevirtual 29, 3)) (kk : XG ω rm nL κ L q h1 cells slots (pc + 3) lv (.int r :: rest)) : XG ω rm nL κ L q h cells slots pc lv (.ref (q tr) :: .int a :: .ref (q o) :: rest) := by
  unfold f_D_sends at hf
  by_cases k2 : kdOf h o = 2
  · replace hf := (if_pos k2).symm.trans hf
    exact x_callU (owner := "SignalBlind$Sender") (x := yX4_sends) X [.int a, .ref (q tr)] rest (k_X4_sends hω hf) (by intro w hw; simp only [List.mem_cons, List.not_mem_nil, or_false] at hw; rcases hw with rfl | rfl | rfl | rfl | rfl <;> first | exact (mT_4 213 rfl rfl) | exact (mT_4 168 rfl rfl) | exact (mT_4 169 rfl rfl) | exact (mT_4 166 rfl rfl) | exact (mT_1 11 rfl rfl)) (mT_4 187 rfl rfl) rfl ⟨by decide, by decide, (by decide : (parseMethodDescriptor yX4_sends.desc).map (fun d => d.parameters.length) = some 2)⟩ ⟨Nat.le_trans (Nat.add_le_add_right (Nat.le_of_ble_eq_true rfl : rm_X4_sends.frames ≤ rm_D_sends.frames) 1) hR.1, Nat.le_trans (Nat.le_of_ble_eq_true rfl : 8 + (3 + 11) + rm_X4_sends.locals ≤ rm_D_sends.locals) hR.2⟩ ⟨rfl, rfl⟩ hcs hso k2 (by decide) rfl rfl hroom hd kk
  replace hf := (if_neg k2).symm.trans hf
  by_cases k3 : kdOf h o = 3
  · replace hf := (if_pos k3).symm.trans hf
    exact x_callU (owner := "SignalBlind$Sender") (x := yX4_sends) X [.int a, .ref (q tr)] rest (k_X4_sends hω hf) (by intro w hw; simp only [List.mem_cons, List.not_mem_nil, or_false] at hw; rcases hw with rfl | rfl | rfl | rfl | rfl <;> first | exact (mT_4 213 rfl rfl) | exact (mT_4 168 rfl rfl) | exact (mT_4 170 rfl rfl) | exact (mT_4 166 rfl rfl) | exact (mT_1 11 rfl rfl)) (mT_4 187 rfl rfl) rfl ⟨by decide, by decide, (by decide : (parseMethodDescriptor yX4_sends.desc).map (fun d => d.parameters.length) = some 2)⟩ ⟨Nat.le_trans (Nat.add_le_add_right (Nat.le_of_ble_eq_true rfl : rm_X4_sends.frames ≤ rm_D_sends.frames) 1) hR.1, Nat.le_trans (Nat.le_of_ble_eq_true rfl : 8 + (3 + 11) + rm_X4_sends.locals ≤ rm_D_sends.locals) hR.2⟩ ⟨rfl, rfl⟩ hcs hso k3 (by decide) rfl rfl hroom hd kk
  replace hf := (if_neg k3).symm.trans hf
  by_cases k6 : kdOf h o = 6
  · replace hf := (if_pos k6).symm.trans hf
    exact x_callV X [.int a, .ref (q tr)] rest (k_X4_sends hω hf) mt_X4_sends (mT_4 213 rfl rfl) ⟨Nat.le_trans (Nat.add_le_add_right (Nat.le_of_ble_eq_true rfl : rm_X4_sends.frames ≤ rm_D_sends.frames) 1) hR.1, Nat.le_trans (Nat.le_of_ble_eq_true rfl : 8 + (3 + 11) + rm_X4_sends.locals ≤ rm_D_sends.locals) hR.2⟩ ⟨rfl, rfl⟩ hcs hso k6 (by decide) rfl rfl hroom hd kk
  replace hf := (if_neg k6).symm.trans hf
  by_cases k7 : kdOf h o = 7
  · replace hf := (if_pos k7).symm.trans hf
    exact x_callO (owner := "SignalBlind$Sender") (x := yX4_sends) X [.int a, .ref (q tr)] rest (k_X5_sends hω hf) (by intro w hw; simp only [List.mem_cons, List.not_mem_nil, or_false] at hw; rcases hw with rfl | rfl | rfl | rfl | rfl | rfl <;> first | exact (mT_4 213 rfl rfl) | exact (mT_4 168 rfl rfl) | exact (mT_4 166 rfl rfl) | exact (mT_4 171 rfl rfl) | exact (mT_4 172 rfl rfl) | exact (mT_1 15 rfl rfl)) (mT_4 173 rfl rfl) (mT_4 187 rfl rfl) ⟨by decide, by decide, (by decide : (parseMethodDescriptor yX4_sends.desc).map (fun d => d.parameters.length) = some 2)⟩ ⟨Nat.le_trans (Nat.add_le_add_right (Nat.le_of_ble_eq_true rfl : rm_X5_sends.frames ≤ rm_D_sends.frames) 1) hR.1, Nat.le_trans (Nat.le_of_ble_eq_true rfl : 8 + (3 + 11) + rm_X5_sends.locals ≤ rm_D_sends.locals) hR.2⟩ ⟨rfl, rfl⟩ hcs hso k7 (by decide) rfl rfl hroom hd kk
  replace hf := (if_neg k7).symm.trans hf
  by_cases k9 : kdOf h o = 9
  · replace hf := (if_pos k9).symm.trans hf
    exact x_callO (owner := "SignalBlind$Sender") (x := yX4_sends) X [.int a, .ref (q tr)] rest (k_X7_sends hω hf) (by intro w hw; simp only [List.mem_cons, List.not_mem_nil, or_false] at hw; rcases hw with rfl | rfl | rfl | rfl | rfl | rfl <;> first | exact (mT_4 213 rfl rfl) | exact (mT_4 168 rfl rfl) | exact (mT_4 166 rfl rfl) | exact (mT_4 179 rfl rfl) | exact (mT_4 175 rfl rfl) | exact (mT_1 12 rfl rfl)) (mT_4 176 rfl rfl) (mT_4 187 rfl rfl) ⟨by decide, by decide, (by decide : (parseMethodDescriptor yX4_sends.desc).map (fun d => d.parameters.length) = some 2)⟩ ⟨Nat.le_trans (Nat.add_le_add_right (Nat.le_of_ble_eq_true rfl : rm_X7_sends.frames ≤ rm_D_sends.frames) 1) hR.1, Nat.le_trans (Nat.le_of_ble_eq_true rfl : 8 + (3 + 11) + rm_X7_sends.locals ≤ rm_D_sends.locals) hR.2⟩ ⟨rfl, rfl⟩ hcs hso k9 (by decide) rfl rfl hroom hd kk
  replace hf := (if_neg k9).symm.trans hf
  by_cases k10 : kdOf h o = 10
  · replace hf := (if_pos k10).symm.trans hf
    exact x_callO (owner := "SignalBlind$Sender") (x := yX4_sends) X [.int a, .ref (q tr)] rest (k_X8_sends hω hf) (by intro w hw; simp only [List.mem_cons, List.not_mem_nil, or_false] at hw; rcases hw with rfl | rfl | rfl | rfl | rfl | rfl <;> first | exact (mT_4 213 rfl rfl) | exact (mT_4 168 rfl rfl) | exact (mT_4 166 rfl rfl) | exact (mT_4 180 rfl rfl) | exact (mT_4 181 rfl rfl) | exact (mT_1 17 rfl rfl)) (mT_4 182 rfl rfl) (mT_4 187 rfl rfl) ⟨by decide, by decide, (by decide : (parseMethodDescriptor yX4_sends.desc).map (fun d => d.parameters.length) = some 2)⟩ ⟨Nat.le_trans (Nat.add_le_add_right (Nat.le_of_ble_eq_true rfl : rm_X8_sends.frames ≤ rm_D_sends.frames) 1) hR.1, Nat.le_trans (Nat.le_of_ble_eq_true rfl : 8 + (3 + 11) + rm_X8_sends.locals ≤ rm_D_sends.locals) hR.2⟩ ⟨rfl, rfl⟩ hcs hso k10 (by decide) rfl rfl hroom hd kk
  replace hf := (if_neg k10).symm.trans hf
  by_cases k12 : kdOf h o = 12
  · replace hf := (if_pos k12).symm.trans hf
    exact x_callU (owner := "SignalBlind$Sender") (x := yX4_sends) X [.int a, .ref (q tr)] rest (k_X4_sends hω hf) (by intro w hw; simp only [List.mem_cons, List.not_mem_nil, or_false] at hw; rcases hw with rfl | rfl | rfl | rfl | rfl <;> first | exact (mT_4 213 rfl rfl) | exact (mT_4 168 rfl rfl) | exact (mT_4 186 rfl rfl) | exact (mT_4 166 rfl rfl) | exact (mT_1 11 rfl rfl)) (mT_4 187 rfl rfl) rfl ⟨by decide, by decide, (by decide : (parseMethodDescriptor yX4_sends.desc).map (fun d => d.parameters.length) = some 2)⟩ ⟨Nat.le_trans (Nat.add_le_add_right (Nat.le_of_ble_eq_true rfl : rm_X4_sends.frames ≤ rm_D_sends.frames) 1) hR.1, Nat.le_trans (Nat.le_of_ble_eq_true rfl : 8 + (3 + 11) + rm_X4_sends.locals ≤ rm_D_sends.locals) hR.2⟩ ⟨rfl, rfl⟩ hcs hso k12 (by decide) rfl rfl hroom hd kk
  replace hf := (if_neg k12).symm.trans hf
  cases hf
theorem cd_X11_239 {ω : XO} {rm : Room} {nL : Nat} {κ : XK} {cc : ByteArray} (X : XC ω rm nL κ cc "SignalBlind") (hω : ω.2.2.2.1 = 1) {L : List Nat} {q : Nat → Nat} {h h1 : hp} {cells slots pc : Nat} {lv : List (Nat × Value)} {rest : List Value} {o : Nat} {a : Int32} {tr : Nat} {r : Int32} (hso : sd ω.2.2.2.1 o = true) (hf : f_D_sends h o a tr = some (h1, r)) (hR : rm_D_sends.frames + 1 ≤ rm.frames ∧ rm_D_sends.locals ≤ rm.locals) (hcs : cells ≤ rm.cells ∧ slots ≤ rm.slots) (hroom : (rest.map fun v => v.category).sum ≤ 8) (hd : decode cc pc = .ok (.invokevirtual 239, 3)) (kk : XG ω rm nL κ L q h1 cells slots (pc + 3) lv (.int r :: rest)) : XG ω rm nL κ L q h cells slots pc lv (.ref (q tr) :: .int a :: .ref (q o) :: rest) := by
  unfold f_D_sends at hf
  by_cases k2 : kdOf h o = 2
  · replace hf := (if_pos k2).symm.trans hf
    exact x_callU (owner := "SignalBlind$Sender") (x := yX4_sends) X [.int a, .ref (q tr)] rest (k_X4_sends hω hf) (by intro w hw; simp only [List.mem_cons, List.not_mem_nil, or_false] at hw; rcases hw with rfl | rfl | rfl | rfl | rfl <;> first | exact (mT_4 165 rfl rfl) | exact (mT_4 168 rfl rfl) | exact (mT_4 169 rfl rfl) | exact (mT_4 166 rfl rfl) | exact (mT_1 11 rfl rfl)) (mT_4 187 rfl rfl) rfl ⟨by decide, by decide, (by decide : (parseMethodDescriptor yX4_sends.desc).map (fun d => d.parameters.length) = some 2)⟩ ⟨Nat.le_trans (Nat.add_le_add_right (Nat.le_of_ble_eq_true rfl : rm_X4_sends.frames ≤ rm_D_sends.frames) 1) hR.1, Nat.le_trans (Nat.le_of_ble_eq_true rfl : 8 + (3 + 11) + rm_X4_sends.locals ≤ rm_D_sends.locals) hR.2⟩ ⟨rfl, rfl⟩ hcs hso k2 (by decide) rfl rfl hroom hd kk
  replace hf := (if_neg k2).symm.trans hf
  by_cases k3 : kdOf h o = 3
  · replace hf := (if_pos k3).symm.trans hf
    exact x_callU (owner := "SignalBlind$Sender") (x := yX4_sends) X [.int a, .ref (q tr)] rest (k_X4_sends hω hf) (by intro w hw; simp only [List.mem_cons, List.not_mem_nil, or_false] at hw; rcases hw with rfl | rfl | rfl | rfl | rfl <;> first | exact (mT_4 165 rfl rfl) | exact (mT_4 168 rfl rfl) | exact (mT_4 170 rfl rfl) | exact (mT_4 166 rfl rfl) | exact (mT_1 11 rfl rfl)) (mT_4 187 rfl rfl) rfl ⟨by decide, by decide, (by decide : (parseMethodDescriptor yX4_sends.desc).map (fun d => d.parameters.length) = some 2)⟩ ⟨Nat.le_trans (Nat.add_le_add_right (Nat.le_of_ble_eq_true rfl : rm_X4_sends.frames ≤ rm_D_sends.frames) 1) hR.1, Nat.le_trans (Nat.le_of_ble_eq_true rfl : 8 + (3 + 11) + rm_X4_sends.locals ≤ rm_D_sends.locals) hR.2⟩ ⟨rfl, rfl⟩ hcs hso k3 (by decide) rfl rfl hroom hd kk
  replace hf := (if_neg k3).symm.trans hf
  by_cases k6 : kdOf h o = 6
  · replace hf := (if_pos k6).symm.trans hf
    exact x_callV X [.int a, .ref (q tr)] rest (k_X4_sends hω hf) mt_X4_sends (mT_4 165 rfl rfl) ⟨Nat.le_trans (Nat.add_le_add_right (Nat.le_of_ble_eq_true rfl : rm_X4_sends.frames ≤ rm_D_sends.frames) 1) hR.1, Nat.le_trans (Nat.le_of_ble_eq_true rfl : 8 + (3 + 11) + rm_X4_sends.locals ≤ rm_D_sends.locals) hR.2⟩ ⟨rfl, rfl⟩ hcs hso k6 (by decide) rfl rfl hroom hd kk
  replace hf := (if_neg k6).symm.trans hf
  by_cases k7 : kdOf h o = 7
  · replace hf := (if_pos k7).symm.trans hf
    exact x_callO (owner := "SignalBlind$Sender") (x := yX4_sends) X [.int a, .ref (q tr)] rest (k_X5_sends hω hf) (by intro w hw; simp only [List.mem_cons, List.not_mem_nil, or_false] at hw; rcases hw with rfl | rfl | rfl | rfl | rfl | rfl <;> first | exact (mT_4 165 rfl rfl) | exact (mT_4 168 rfl rfl) | exact (mT_4 166 rfl rfl) | exact (mT_4 171 rfl rfl) | exact (mT_4 172 rfl rfl) | exact (mT_1 15 rfl rfl)) (mT_4 173 rfl rfl) (mT_4 187 rfl rfl) ⟨by decide, by decide, (by decide : (parseMethodDescriptor yX4_sends.desc).map (fun d => d.parameters.length) = some 2)⟩ ⟨Nat.le_trans (Nat.add_le_add_right (Nat.le_of_ble_eq_true rfl : rm_X5_sends.frames ≤ rm_D_sends.frames) 1) hR.1, Nat.le_trans (Nat.le_of_ble_eq_true rfl : 8 + (3 + 11) + rm_X5_sends.locals ≤ rm_D_sends.locals) hR.2⟩ ⟨rfl, rfl⟩ hcs hso k7 (by decide) rfl rfl hroom hd kk
  replace hf := (if_neg k7).symm.trans hf
  by_cases k9 : kdOf h o = 9
  · replace hf := (if_pos k9).symm.trans hf
    exact x_callO (owner := "SignalBlind$Sender") (x := yX4_sends) X [.int a, .ref (q tr)] rest (k_X7_sends hω hf) (by intro w hw; simp only [List.mem_cons, List.not_mem_nil, or_false] at hw; rcases hw with rfl | rfl | rfl | rfl | rfl | rfl <;> first | exact (mT_4 165 rfl rfl) | exact (mT_4 168 rfl rfl) | exact (mT_4 166 rfl rfl) | exact (mT_4 179 rfl rfl) | exact (mT_4 175 rfl rfl) | exact (mT_1 12 rfl rfl)) (mT_4 176 rfl rfl) (mT_4 187 rfl rfl) ⟨by decide, by decide, (by decide : (parseMethodDescriptor yX4_sends.desc).map (fun d => d.parameters.length) = some 2)⟩ ⟨Nat.le_trans (Nat.add_le_add_right (Nat.le_of_ble_eq_true rfl : rm_X7_sends.frames ≤ rm_D_sends.frames) 1) hR.1, Nat.le_trans (Nat.le_of_ble_eq_true rfl : 8 + (3 + 11) + rm_X7_sends.locals ≤ rm_D_sends.locals) hR.2⟩ ⟨rfl, rfl⟩ hcs hso k9 (by decide) rfl rfl hroom hd kk
  replace hf := (if_neg k9).symm.trans hf
  by_cases k10 : kdOf h o = 10
  · replace hf := (if_pos k10).symm.trans hf
    exact x_callO (owner := "SignalBlind$Sender") (x := yX4_sends) X [.int a, .ref (q tr)] rest (k_X8_sends hω hf) (by intro w hw; simp only [List.mem_cons, List.not_mem_nil, or_false] at hw; rcases hw with rfl | rfl | rfl | rfl | rfl | rfl <;> first | exact (mT_4 165 rfl rfl) | exact (mT_4 168 rfl rfl) | exact (mT_4 166 rfl rfl) | exact (mT_4 180 rfl rfl) | exact (mT_4 181 rfl rfl) | exact (mT_1 17 rfl rfl)) (mT_4 182 rfl rfl) (mT_4 187 rfl rfl) ⟨by decide, by decide, (by decide : (parseMethodDescriptor yX4_sends.desc).map (fun d => d.parameters.length) = some 2)⟩ ⟨Nat.le_trans (Nat.add_le_add_right (Nat.le_of_ble_eq_true rfl : rm_X8_sends.frames ≤ rm_D_sends.frames) 1) hR.1, Nat.le_trans (Nat.le_of_ble_eq_true rfl : 8 + (3 + 11) + rm_X8_sends.locals ≤ rm_D_sends.locals) hR.2⟩ ⟨rfl, rfl⟩ hcs hso k10 (by decide) rfl rfl hroom hd kk
  replace hf := (if_neg k10).symm.trans hf
  by_cases k12 : kdOf h o = 12
  · replace hf := (if_pos k12).symm.trans hf
    exact x_callU (owner := "SignalBlind$Sender") (x := yX4_sends) X [.int a, .ref (q tr)] rest (k_X4_sends hω hf) (by intro w hw; simp only [List.mem_cons, List.not_mem_nil, or_false] at hw; rcases hw with rfl | rfl | rfl | rfl | rfl <;> first | exact (mT_4 165 rfl rfl) | exact (mT_4 168 rfl rfl) | exact (mT_4 186 rfl rfl) | exact (mT_4 166 rfl rfl) | exact (mT_1 11 rfl rfl)) (mT_4 187 rfl rfl) rfl ⟨by decide, by decide, (by decide : (parseMethodDescriptor yX4_sends.desc).map (fun d => d.parameters.length) = some 2)⟩ ⟨Nat.le_trans (Nat.add_le_add_right (Nat.le_of_ble_eq_true rfl : rm_X4_sends.frames ≤ rm_D_sends.frames) 1) hR.1, Nat.le_trans (Nat.le_of_ble_eq_true rfl : 8 + (3 + 11) + rm_X4_sends.locals ≤ rm_D_sends.locals) hR.2⟩ ⟨rfl, rfl⟩ hcs hso k12 (by decide) rfl rfl hroom hd kk
  replace hf := (if_neg k12).symm.trans hf
  cases hf

abbrev rm_DN_sends : Room := { frames := 6, cells := 0, slots := 0, locals := 152 }
def f_DN_sends (h : hp) (o : Nat) (a : Int32) (t : Nat) : Option (hp × Int32) := if kdOf h o = 3 then f_X4_sends h o a t else if kdOf h o = 10 then f_X8_sends h o a t else none
theorem cd_X1_17 {ω : XO} {rm : Room} {nL : Nat} {κ : XK} {cc : ByteArray} (X : XC ω rm nL κ cc "SignalBlind$Nurse") (hω : ω.2.2.2.1 = 1) {L : List Nat} {q : Nat → Nat} {h h1 : hp} {cells slots pc : Nat} {lv : List (Nat × Value)} {rest : List Value} {o : Nat} {a : Int32} {tr : Nat} {r : Int32} (hso : sd ω.2.2.2.1 o = true) (hf : f_DN_sends h o a tr = some (h1, r)) (hR : rm_DN_sends.frames + 1 ≤ rm.frames ∧ rm_DN_sends.locals ≤ rm.locals) (hcs : cells ≤ rm.cells ∧ slots ≤ rm.slots) (hroom : (rest.map fun v => v.category).sum ≤ 8) (hd : decode cc pc = .ok (.invokevirtual 17, 3)) (kk : XG ω rm nL κ L q h1 cells slots (pc + 3) lv (.int r :: rest)) : XG ω rm nL κ L q h cells slots pc lv (.ref (q tr) :: .int a :: .ref (q o) :: rest) := by
  unfold f_DN_sends at hf
  by_cases k3 : kdOf h o = 3
  · replace hf := (if_pos k3).symm.trans hf
    exact x_callU (owner := "SignalBlind$Sender") (x := ⟨"SignalBlind$Nurse", "sends", "(ILjava/lang/StringBuilder;)I"⟩) X [.int a, .ref (q tr)] rest (k_X4_sends hω hf) (by intro w hw; simp only [List.mem_cons, List.not_mem_nil, or_false] at hw; rcases hw with rfl | rfl | rfl | rfl | rfl <;> first | exact (mT_4 199 rfl rfl) | exact (mT_4 184 rfl rfl) | exact (mT_4 200 rfl rfl) | exact (mT_4 166 rfl rfl) | exact (mT_1 11 rfl rfl)) (mT_4 187 rfl rfl) rfl ⟨by decide, by decide, (by decide : (parseMethodDescriptor yX4_sends.desc).map (fun d => d.parameters.length) = some 2)⟩ ⟨Nat.le_trans (Nat.add_le_add_right (Nat.le_of_ble_eq_true rfl : rm_X4_sends.frames ≤ rm_DN_sends.frames) 1) hR.1, Nat.le_trans (Nat.le_of_ble_eq_true rfl : 8 + (3 + 11) + rm_X4_sends.locals ≤ rm_DN_sends.locals) hR.2⟩ ⟨rfl, rfl⟩ hcs hso k3 (by decide) rfl rfl hroom hd kk
  replace hf := (if_neg k3).symm.trans hf
  by_cases k10 : kdOf h o = 10
  · replace hf := (if_pos k10).symm.trans hf
    exact x_callO (owner := "SignalBlind$Sender") (x := ⟨"SignalBlind$Nurse", "sends", "(ILjava/lang/StringBuilder;)I"⟩) X [.int a, .ref (q tr)] rest (k_X8_sends hω hf) (by intro w hw; simp only [List.mem_cons, List.not_mem_nil, or_false] at hw; rcases hw with rfl | rfl | rfl | rfl | rfl | rfl <;> first | exact (mT_4 199 rfl rfl) | exact (mT_4 184 rfl rfl) | exact (mT_4 166 rfl rfl) | exact (mT_4 201 rfl rfl) | exact (mT_4 181 rfl rfl) | exact (mT_1 17 rfl rfl)) (mT_4 182 rfl rfl) (mT_4 187 rfl rfl) ⟨by decide, by decide, (by decide : (parseMethodDescriptor yX4_sends.desc).map (fun d => d.parameters.length) = some 2)⟩ ⟨Nat.le_trans (Nat.add_le_add_right (Nat.le_of_ble_eq_true rfl : rm_X8_sends.frames ≤ rm_DN_sends.frames) 1) hR.1, Nat.le_trans (Nat.le_of_ble_eq_true rfl : 8 + (3 + 11) + rm_X8_sends.locals ≤ rm_DN_sends.locals) hR.2⟩ ⟨rfl, rfl⟩ hcs hso k10 (by decide) rfl rfl hroom hd kk
  replace hf := (if_neg k10).symm.trans hf
  cases hf

abbrev rm_X4_tells : Room := { frames := 8, cells := 0, slots := 0, locals := 174 }
def f_X4_tells (h : hp) (o : Nat) (p0 : Int32) (p1 : Nat) : Option (hp × Int32) := (ckO 1 h p1 1
 (bnd (f_J4_append_cf468 h p1 (12 : Int32)) fun h2 r3 =>
 (ckS h2 o
 (bnd (f_D_sends h2 o p0 p1) fun h6 r7 =>
 (some (h6, (r7 * (2 : Int32))))))))
set_option maxRecDepth 100000 in
set_option maxHeartbeats 4000000 in
theorem k_X4_tells {ω : XO} (hω : ω.2.2.2.1 = 1) {L : List Nat} {q : Nat → Nat} {h h' : hp} {o : Nat} {p0 : Int32} {p1 : Nat} {r : Int32} (hf : f_X4_tells h o p0 p1 = some (h', r)) : XM ω yX4_tells cX4_tells 3 (some .int) rm_X4_tells L q h [.ref (q o), .int p0, .ref (q p1)] (some (.int r)) h' := by
  refine XM_intro [(0, .ref (q o)), (1, .int p0), (2, .ref (q p1))] "SignalBlind$Sender" (by decide) rfl rfl (Nat.le_of_ble_eq_true rfl) (fun κ X R => ?_)
  unfold f_X4_tells at hf
  refine x_aload_n X dX4_tells_0 2 rfl rfl ?_
  refine x_bipush X (v := 12) dX4_tells_1 (by decide) ?_
  obtain ⟨b1, hf⟩ := ckO_some hf
  obtain ⟨h2, r3, g4, hf⟩ := bnd_some hf
  refine c_X4_19 X hω g4 (sd_of hω b1.1) b1.2 (hR := ⟨Nat.le_of_ble_eq_true rfl, Nat.le_of_ble_eq_true rfl⟩) ⟨Nat.zero_le _, Nat.zero_le _⟩ (Nat.le_of_ble_eq_true rfl) dX4_tells_3 ?_
  refine x_pop X dX4_tells_6 rfl ?_
  refine x_aload_n X dX4_tells_7 0 rfl rfl ?_
  refine x_iload_n X dX4_tells_8 1 rfl rfl ?_
  refine x_aload_n X dX4_tells_9 2 rfl rfl ?_
  obtain ⟨b5, hf⟩ := ckS_some hf
  obtain ⟨h6, r7, g8, hf⟩ := bnd_some hf
  refine cd_X4_29 X hω (sd_of hω b5.1) g8 (hR := ⟨Nat.le_of_ble_eq_true rfl, Nat.le_of_ble_eq_true rfl⟩) ⟨Nat.zero_le _, Nat.zero_le _⟩ (Nat.le_of_ble_eq_true rfl) dX4_tells_10 ?_
  refine x_iconst X (v := 2) dX4_tells_13 (by decide) ?_
  refine x_imul X dX4_tells_14 ?_
  exact x_retSI X R hf dX4_tells_15
theorem mt_X4_tells : MT yX4_tells cX4_tells 3 (some .int) "SignalBlind$Sender" 2 := ⟨(mT_4 190 rfl rfl), (mT_4 191 rfl rfl), (mT_1 11 rfl rfl), (mT_4 212 rfl rfl), by decide⟩
theorem c_X1_13 {ω : XO} {rm : Room} {nL : Nat} {κ : XK} {cc : ByteArray} (X : XC ω rm nL κ cc "SignalBlind$Nurse") (hω : ω.2.2.2.1 = 1) {L : List Nat} {q : Nat → Nat} {h h' : hp} {cells slots pc : Nat} {lv : List (Nat × Value)} {rest : List Value} {o : Nat} {p0 : Int32} {p1 : Nat} {r : Int32} (hf : f_X4_tells h o p0 p1 = some (h', r)) (hb : sd 1 o = true ∧ kdOf h o ∈ sndK) (hR : rm_X4_tells.frames + 1 ≤ rm.frames ∧ 8 + (3 + 11) + rm_X4_tells.locals ≤ rm.locals) (hcs : cells ≤ rm.cells ∧ slots ≤ rm.slots) (hroom : (rest.map fun v => v.category).sum ≤ 8) (hd : decode cc pc = .ok (.invokespecial 13, 3)) (kk : XG ω rm nL κ L q h' cells slots (pc + 3) lv (.int r :: rest)) : XG ω rm nL κ L q h cells slots pc lv (.ref (q p1) :: .int p0 :: .ref (q o) :: rest) := by
  have hs := sd_of hω hb.1
  rcases snd_cases hb.2 with e | e | e | e | e | e | e <;> exact x_callSU X [.int p0, .ref (q p1)] rest (k_X4_tells hω hf) (by intro w hw; simp only [List.mem_cons, List.not_mem_nil, or_false] at hw; rcases hw with rfl | rfl | rfl | rfl | rfl <;> first | exact (mT_4 198 rfl rfl) | exact (mT_4 192 rfl rfl) | exact (mT_2 72 rfl rfl) | exact (mT_4 190 rfl rfl) | exact (mT_1 11 rfl rfl)) (mT_4 212 rfl rfl) ⟨by decide, (by decide : (parseMethodDescriptor yX4_tells.desc).map (fun d => d.parameters.length) = some 2)⟩ hR ⟨rfl, rfl⟩ hcs hs e (by decide) rfl rfl hroom hd kk
theorem c_X10_23 {ω : XO} {rm : Room} {nL : Nat} {κ : XK} {cc : ByteArray} (X : XC ω rm nL κ cc "SignalBlind$Wind") (hω : ω.2.2.2.1 = 1) {L : List Nat} {q : Nat → Nat} {h h' : hp} {cells slots pc : Nat} {lv : List (Nat × Value)} {rest : List Value} {o : Nat} {p0 : Int32} {p1 : Nat} {r : Int32} (hf : f_X4_tells h o p0 p1 = some (h', r)) (hb : sd 1 o = true ∧ kdOf h o ∈ sndK) (hR : rm_X4_tells.frames + 1 ≤ rm.frames ∧ 8 + (3 + 11) + rm_X4_tells.locals ≤ rm.locals) (hcs : cells ≤ rm.cells ∧ slots ≤ rm.slots) (hroom : (rest.map fun v => v.category).sum ≤ 8) (hd : decode cc pc = .ok (.invokespecial 23, 3)) (kk : XG ω rm nL κ L q h' cells slots (pc + 3) lv (.int r :: rest)) : XG ω rm nL κ L q h cells slots pc lv (.ref (q p1) :: .int p0 :: .ref (q o) :: rest) := by
  have hs := sd_of hω hb.1
  rcases snd_cases hb.2 with e | e | e | e | e | e | e <;> exact x_callSI (owner := "SignalBlind$Sender") (x := ⟨"SignalBlind$Half", "tells", "(ILjava/lang/StringBuilder;)I"⟩) X [.int p0, .ref (q p1)] rest (k_X4_tells hω hf) rfl (by intro w hw; simp only [List.mem_cons, List.not_mem_nil, or_false] at hw; rcases hw with rfl | rfl | rfl | rfl | rfl | rfl <;> first | exact (mT_4 209 rfl rfl) | exact (mT_4 210 rfl rfl) | exact (mT_2 92 rfl rfl) | exact (mT_2 62 rfl rfl) | exact (mT_4 190 rfl rfl) | exact (mT_1 11 rfl rfl)) (mT_4 212 rfl rfl) ⟨by decide, (by decide : (parseMethodDescriptor yX4_tells.desc).map (fun d => d.parameters.length) = some 2)⟩ hR ⟨rfl, rfl⟩ hcs hs e (by decide) rfl rfl hroom hd kk
