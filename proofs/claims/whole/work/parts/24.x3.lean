abbrev rm_X11_of : Room := { frames := 6, cells := 0, slots := 0, locals := 148 }
def f_X11_of (h : hp) (p0 : Int32) (p1 : Int32) : Option (hp × Int32) := (bnr (f_X11_isSender h p0) fun r1 =>
 (if r1 = 0 then
 (some (h, (-1 : Int32)))
 else
 (if p1 = (0 : Int32) then
 (chk p0 5
 (onO (aR h 4 (p0).toNatClampNeg) none fun i6 =>
 (ckS h i6
 (some (h, (hI h i6 1))))))
 else
 (if p1 = (1 : Int32) then
 (chk p0 5
 (onO (aR h 4 (p0).toNatClampNeg) none fun i10 =>
 (ckS h i10
 (some (h, (hI h i10 2))))))
 else
 (if p1 = (2 : Int32) then
 (chk p0 5
 (some (h, (aI h 5 (p0).toNatClampNeg))))
 else
 (if p1 = (3 : Int32) then
 (bnd (f_X11_wordsThrough h p0) fun h15 r16 =>
 (some (h15, r16)))
 else
 (if p1 = (4 : Int32) then
 (bnd (f_X11_unlikeSigns h p0) fun h19 r20 =>
 (some (h19, r20)))
 else
 (some (h, (-1 : Int32))))))))))
set_option maxRecDepth 100000 in
set_option maxHeartbeats 4000000 in
theorem k_X11_of {ω : XO} (hω : ω.2.2.2.1 = 1) {L : List Nat} {q : Nat → Nat} {h h' : hp} {p0 : Int32} {p1 : Int32} {r : Int32} (hf : f_X11_of h p0 p1 = some (h', r)) : XM ω yX11_of cX11_of 3 (some .int) rm_X11_of L q h [.ref (q 0), .int p0, .int p1] (some (.int r)) h' := by
  refine XM_intro [(0, .ref (q 0)), (1, .int p0), (2, .int p1)] "SignalBlind" (by decide) rfl rfl (Nat.le_of_ble_eq_true rfl) (fun κ X R => ?_)
  unfold f_X11_of at hf
  refine x_aload_n X dX11_of_0 0 rfl rfl ?_
  refine x_iload_n X dX11_of_1 1 rfl rfl ?_
  obtain ⟨r1, g2, hf⟩ := bnr_some hf
  refine c_X11_112 X hω g2 (hR := ⟨Nat.le_of_ble_eq_true rfl, Nat.le_of_ble_eq_true rfl⟩) ⟨Nat.zero_le _, Nat.zero_le _⟩ (Nat.le_of_ble_eq_true rfl) dX11_of_2 ?_
  refine x_if_ne X 10 dX11_of_5 (by decide) (fun c3 => ?_) (fun c3 => ?_)
  · replace hf := (if_pos c3).symm.trans hf
    refine x_iconst X (v := -1) dX11_of_8 (by decide) ?_
    exact x_retSI X R hf dX11_of_9
  · replace hf := (if_neg c3).symm.trans hf
    refine x_iload_n X dX11_of_10 2 rfl rfl ?_
    by_cases s4 : p1 = (0 : Int32)
    · replace hf := (if_pos s4).symm.trans hf
      refine x_tswI X (off := 33) 44 dX11_of_11 s4 (by decide) (by decide) (by decide) (by decide) ?_
      refine x_aload_n X dX11_of_44 0 rfl rfl ?_
      refine x_getsj X (i := 0) 1 fl_X11_14_12 (sdX_0 hω) (ks_0 _) rfl (j := 1) rfl dX11_of_45 ?_
      refine x_getsj X (i := 1) 3 fl_X11_115_4 (sdX_1 hω) (ks_1 _) rfl (j := 4) rfl dX11_of_48 ?_
      refine x_iload_n X dX11_of_51 1 rfl rfl ?_
      obtain ⟨z5, hf⟩ := chk_some hf
      refine x_aald X (i := 4) (n := 5) (e := 4) (by decide) (sdX_4 hω) (ks_4 _) z5 dX11_of_52 ?_
      obtain ⟨i6, ei6, hf⟩ := onO_some hf
      refine x_nn ei6 ?_
      obtain ⟨b7, hf⟩ := ckS_some hf
      refine x_getS_X11_119 X hω b7 dX11_of_53 ?_
      exact x_retSI X R hf dX11_of_56
    · replace hf := (if_neg s4).symm.trans hf
      by_cases s8 : p1 = (1 : Int32)
      · replace hf := (if_pos s8).symm.trans hf
        refine x_tswI X (off := 46) 57 dX11_of_11 s8 (by decide) (by decide) (by decide) (by decide) ?_
        refine x_aload_n X dX11_of_57 0 rfl rfl ?_
        refine x_getsj X (i := 0) 1 fl_X11_14_12 (sdX_0 hω) (ks_0 _) rfl (j := 1) rfl dX11_of_58 ?_
        refine x_getsj X (i := 1) 3 fl_X11_115_4 (sdX_1 hω) (ks_1 _) rfl (j := 4) rfl dX11_of_61 ?_
        refine x_iload_n X dX11_of_64 1 rfl rfl ?_
        obtain ⟨z9, hf⟩ := chk_some hf
        refine x_aald X (i := 4) (n := 5) (e := 4) (by decide) (sdX_4 hω) (ks_4 _) z9 dX11_of_65 ?_
        obtain ⟨i10, ei10, hf⟩ := onO_some hf
        refine x_nn ei10 ?_
        obtain ⟨b11, hf⟩ := ckS_some hf
        refine x_getS_X11_124 X hω b11 dX11_of_66 ?_
        exact x_retSI X R hf dX11_of_69
      · replace hf := (if_neg s8).symm.trans hf
        by_cases s12 : p1 = (2 : Int32)
        · replace hf := (if_pos s12).symm.trans hf
          refine x_tswI X (off := 59) 70 dX11_of_11 s12 (by decide) (by decide) (by decide) (by decide) ?_
          refine x_aload_n X dX11_of_70 0 rfl rfl ?_
          refine x_getsj X (i := 0) 1 fl_X11_14_12 (sdX_0 hω) (ks_0 _) rfl (j := 1) rfl dX11_of_71 ?_
          refine x_getsj X (i := 1) 4 fl_X11_127_4 (sdX_1 hω) (ks_1 _) rfl (j := 5) rfl dX11_of_74 ?_
          refine x_iload_n X dX11_of_77 1 rfl rfl ?_
          obtain ⟨z13, hf⟩ := chk_some hf
          refine x_iald X (i := 5) (n := 5) (sdX_5 hω) (ks_5 _) z13 dX11_of_78 ?_
          exact x_retSI X R hf dX11_of_79
        · replace hf := (if_neg s12).symm.trans hf
          by_cases s14 : p1 = (3 : Int32)
          · replace hf := (if_pos s14).symm.trans hf
            refine x_tswI X (off := 69) 80 dX11_of_11 s14 (by decide) (by decide) (by decide) (by decide) ?_
            refine x_aload_n X dX11_of_80 0 rfl rfl ?_
            refine x_iload_n X dX11_of_81 1 rfl rfl ?_
            obtain ⟨h15, r16, g17, hf⟩ := bnd_some hf
            refine c_X11_130 X hω g17 (hR := ⟨Nat.le_of_ble_eq_true rfl, Nat.le_of_ble_eq_true rfl⟩) ⟨Nat.zero_le _, Nat.zero_le _⟩ (Nat.le_of_ble_eq_true rfl) dX11_of_82 ?_
            exact x_retSI X R hf dX11_of_85
          · replace hf := (if_neg s14).symm.trans hf
            by_cases s18 : p1 = (4 : Int32)
            · replace hf := (if_pos s18).symm.trans hf
              refine x_tswI X (off := 75) 86 dX11_of_11 s18 (by decide) (by decide) (by decide) (by decide) ?_
              refine x_aload_n X dX11_of_86 0 rfl rfl ?_
              refine x_iload_n X dX11_of_87 1 rfl rfl ?_
              obtain ⟨h19, r20, g21, hf⟩ := bnd_some hf
              refine c_X11_133 X hω g21 (hR := ⟨Nat.le_of_ble_eq_true rfl, Nat.le_of_ble_eq_true rfl⟩) ⟨Nat.zero_le _, Nat.zero_le _⟩ (Nat.le_of_ble_eq_true rfl) dX11_of_88 ?_
              exact x_retSI X R hf dX11_of_91
            · replace hf := (if_neg s18).symm.trans hf
              refine x_tswO X 92 dX11_of_11 (by have := lv_neT s4 (a := 0) (by decide); have := lv_neT s8 (a := 1) (by decide); have := lv_neT s12 (a := 2) (by decide); have := lv_neT s14 (a := 3) (by decide); have := lv_neT s18 (a := 4) (by decide); omega) (by decide) ?_
              refine x_iconst X (v := -1) dX11_of_92 (by decide) ?_
              exact x_retSI X R hf dX11_of_93
theorem mt_X11_of : MT yX11_of cX11_of 3 (some .int) "SignalBlind" 2 := ⟨(mT_2 115 rfl rfl), (mT_2 116 rfl rfl), (mT_1 1 rfl rfl), (mT_2 117 rfl rfl), by decide⟩

abbrev rm_X11_shows : Room := { frames := 5, cells := 0, slots := 0, locals := 124 }
def f_X11_shows_28 (h : hp) (a7 : Int32) : Option (hp × Int32) := (some (h, a7))
def f_X11_shows (h : hp) (p0 : Int32) (p1 : Int32) : Option (hp × Int32) := (bnr (f_X11_isSender h p0) fun r1 =>
 (if r1 = 0 then
 (some (h, (-1 : Int32)))
 else
 (bnr (f_X11_isSign h p1) fun r4 =>
 (if r4 = 0 then
 (f_X11_shows_28 h (-2 : Int32))
 else
 (bnd (f_X11_shownNow h p0 p1) fun h8 r9 =>
 (f_X11_shows_28 h8 r9))))))
set_option maxRecDepth 100000 in
set_option maxHeartbeats 4000000 in
theorem k_X11_shows_28 {ω : XO} (hω : ω.2.2.2.1 = 1) {κ : XK} (X : XC ω rm_X11_shows 3 κ cX11_shows "SignalBlind") {L : List Nat} {q : Nat → Nat} {h' : hp} {r : Int32} (R : XRet ω rm_X11_shows κ (some .int) L q h' (some (.int r))) : ∀ (h : hp) (a7 : Int32), f_X11_shows_28 h a7 = some (h', r) → XG ω rm_X11_shows 3 κ L q h 0 0 28 [] [.int a7] := by
  intro h a7 hf
  unfold f_X11_shows_28 at hf
  exact x_retSI X R hf dX11_shows_28
set_option maxRecDepth 100000 in
set_option maxHeartbeats 4000000 in
theorem k_X11_shows {ω : XO} (hω : ω.2.2.2.1 = 1) {L : List Nat} {q : Nat → Nat} {h h' : hp} {p0 : Int32} {p1 : Int32} {r : Int32} (hf : f_X11_shows h p0 p1 = some (h', r)) : XM ω yX11_shows cX11_shows 3 (some .int) rm_X11_shows L q h [.ref (q 0), .int p0, .int p1] (some (.int r)) h' := by
  refine XM_intro [(0, .ref (q 0)), (1, .int p0), (2, .int p1)] "SignalBlind" (by decide) rfl rfl (Nat.le_of_ble_eq_true rfl) (fun κ X R => ?_)
  unfold f_X11_shows at hf
  refine x_aload_n X dX11_shows_0 0 rfl rfl ?_
  refine x_iload_n X dX11_shows_1 1 rfl rfl ?_
  obtain ⟨r1, g2, hf⟩ := bnr_some hf
  refine c_X11_112 X hω g2 (hR := ⟨Nat.le_of_ble_eq_true rfl, Nat.le_of_ble_eq_true rfl⟩) ⟨Nat.zero_le _, Nat.zero_le _⟩ (Nat.le_of_ble_eq_true rfl) dX11_shows_2 ?_
  refine x_if_ne X 10 dX11_shows_5 (by decide) (fun c3 => ?_) (fun c3 => ?_)
  · replace hf := (if_pos c3).symm.trans hf
    refine x_iconst X (v := -1) dX11_shows_8 (by decide) ?_
    exact x_retSI X R hf dX11_shows_9
  · replace hf := (if_neg c3).symm.trans hf
    refine x_iload_n X dX11_shows_10 2 rfl rfl ?_
    obtain ⟨r4, g5, hf⟩ := bnr_some hf
    refine c_X11_73 X hω g5 (hR := ⟨Nat.le_of_ble_eq_true rfl, Nat.le_of_ble_eq_true rfl⟩) ⟨Nat.zero_le _, Nat.zero_le _⟩ (Nat.le_of_ble_eq_true rfl) dX11_shows_11 ?_
    refine x_if_eq X 26 dX11_shows_14 (by decide) (fun c6 => ?_) (fun c6 => ?_)
    · replace hf := (if_pos c6).symm.trans hf
      refine x_bipush X (v := -2) dX11_shows_26 (by decide) ?_
      refine x_lv [] rfl ?_
      exact k_X11_shows_28 hω X R h _ hf
    · replace hf := (if_neg c6).symm.trans hf
      refine x_aload_n X dX11_shows_17 0 rfl rfl ?_
      refine x_iload_n X dX11_shows_18 1 rfl rfl ?_
      refine x_iload_n X dX11_shows_19 2 rfl rfl ?_
      obtain ⟨h8, r9, g10, hf⟩ := bnd_some hf
      refine c_X11_136 X hω g10 (hR := ⟨Nat.le_of_ble_eq_true rfl, Nat.le_of_ble_eq_true rfl⟩) ⟨Nat.zero_le _, Nat.zero_le _⟩ (Nat.le_of_ble_eq_true rfl) dX11_shows_20 ?_
      refine x_goto X 28 dX11_shows_23 (by decide) ?_
      refine x_lv [] rfl ?_
      exact k_X11_shows_28 hω X R h8 _ hf
theorem mt_X11_shows : MT yX11_shows cX11_shows 3 (some .int) "SignalBlind" 2 := ⟨(mT_2 213 rfl rfl), (mT_2 214 rfl rfl), (mT_1 1 rfl rfl), (mT_2 215 rfl rfl), by decide⟩

abbrev rm_X11_meaning : Room := { frames := 3, cells := 0, slots := 0, locals := 66 }
def f_X11_meaning_17 (h : hp) (a4 : Int32) : Option Int32 := (some a4)
def f_X11_meaning (h : hp) (p0 : Int32) : Option Int32 := (bnr (f_X11_isSign h p0) fun r1 =>
 (if r1 = 0 then
 (f_X11_meaning_17 h (-2 : Int32))
 else
 (bnr (f_X11_readAs h p0) fun r5 =>
 (f_X11_meaning_17 h r5))))
set_option maxRecDepth 100000 in
set_option maxHeartbeats 4000000 in
theorem k_X11_meaning_17 {ω : XO} (hω : ω.2.2.2.1 = 1) {κ : XK} (X : XC ω rm_X11_meaning 2 κ cX11_meaning "SignalBlind") {L : List Nat} {q : Nat → Nat} {h : hp} {r : Int32} (R : XRet ω rm_X11_meaning κ (some .int) L q h (some (.int r))) : ∀ (a4 : Int32), f_X11_meaning_17 h a4 = some r → XG ω rm_X11_meaning 2 κ L q h 0 0 17 [] [.int a4] := by
  intro a4 hf
  unfold f_X11_meaning_17 at hf
  exact x_retRI X R hf dX11_meaning_17
set_option maxRecDepth 100000 in
set_option maxHeartbeats 4000000 in
theorem k_X11_meaning {ω : XO} (hω : ω.2.2.2.1 = 1) {L : List Nat} {q : Nat → Nat} {h : hp} {p0 : Int32} {r : Int32} (hf : f_X11_meaning h p0 = some r) : XM ω yX11_meaning cX11_meaning 2 (some .int) rm_X11_meaning L q h [.ref (q 0), .int p0] (some (.int r)) h := by
  refine XM_intro [(0, .ref (q 0)), (1, .int p0)] "SignalBlind" (by decide) rfl rfl (Nat.le_of_ble_eq_true rfl) (fun κ X R => ?_)
  unfold f_X11_meaning at hf
  refine x_iload_n X dX11_meaning_0 1 rfl rfl ?_
  obtain ⟨r1, g2, hf⟩ := bnr_some hf
  refine c_X11_73 X hω g2 (hR := ⟨Nat.le_of_ble_eq_true rfl, Nat.le_of_ble_eq_true rfl⟩) ⟨Nat.zero_le _, Nat.zero_le _⟩ (Nat.le_of_ble_eq_true rfl) dX11_meaning_1 ?_
  refine x_if_eq X 15 dX11_meaning_4 (by decide) (fun c3 => ?_) (fun c3 => ?_)
  · replace hf := (if_pos c3).symm.trans hf
    refine x_bipush X (v := -2) dX11_meaning_15 (by decide) ?_
    refine x_lv [] rfl ?_
    exact k_X11_meaning_17 hω X R _ hf
  · replace hf := (if_neg c3).symm.trans hf
    refine x_aload_n X dX11_meaning_7 0 rfl rfl ?_
    refine x_iload_n X dX11_meaning_8 1 rfl rfl ?_
    obtain ⟨r5, g6, hf⟩ := bnr_some hf
    refine c_X11_140 X hω g6 (hR := ⟨Nat.le_of_ble_eq_true rfl, Nat.le_of_ble_eq_true rfl⟩) ⟨Nat.zero_le _, Nat.zero_le _⟩ (Nat.le_of_ble_eq_true rfl) dX11_meaning_9 ?_
    refine x_goto X 17 dX11_meaning_12 (by decide) ?_
    refine x_lv [] rfl ?_
    exact k_X11_meaning_17 hω X R _ hf
theorem mt_X11_meaning : MT yX11_meaning cX11_meaning 2 (some .int) "SignalBlind" 1 := ⟨(mT_2 217 rfl rfl), (mT_2 218 rfl rfl), (mT_1 1 rfl rfl), (mT_2 219 rfl rfl), by decide⟩

abbrev rm_X11_say : Room := { frames := 5, cells := 0, slots := 0, locals := 124 }
def f_X11_say_16 (h : hp) : Option (hp × Int32) := (some (h, (-1 : Int32)))
def f_X11_say (h : hp) (p0 : Int32) (p1 : Int32) : Option (hp × Int32) := (bnr (f_X11_isSender h p0) fun r1 =>
 (if r1 = 0 then
 (f_X11_say_16 h)
 else
 (bnr (f_X11_isWord h p1) fun r4 =>
 (if r4 = 0 then
 (f_X11_say_16 h)
 else
 (chk p0 5
 (if (aI h 5 (p0).toNatClampNeg) < (9999 : Int32) then
 (bnr (f_X2_get h 2 p1) fun r9 =>
 (bnd (f_X11_shownNow h p0 r9) fun h11 r12 =>
 (bnr (f_X11_readAs h11 r12) fun r14 =>
 (chk p0 5
 (chk p0 5
 (nm (tI h11 5 (p0).toNatClampNeg ((aI h11 5 (p0).toNatClampNeg) + (1 : Int32))) fun h18 =>
 (some (h18, r14))))))))
 else
 (some (h, (-3 : Int32)))))))))
set_option maxRecDepth 100000 in
set_option maxHeartbeats 4000000 in
theorem k_X11_say_16 {ω : XO} (hω : ω.2.2.2.1 = 1) {κ : XK} (X : XC ω rm_X11_say 4 κ cX11_say "SignalBlind") {L : List Nat} {q : Nat → Nat} {h' : hp} {r : Int32} (R : XRet ω rm_X11_say κ (some .int) L q h' (some (.int r))) : ∀ (h : hp), f_X11_say_16 h = some (h', r) → XG ω rm_X11_say 4 κ L q h 0 0 16 [] [] := by
  intro h hf
  unfold f_X11_say_16 at hf
  refine x_iconst X (v := -1) dX11_say_16 (by decide) ?_
  exact x_retSI X R hf dX11_say_17
set_option maxRecDepth 100000 in
set_option maxHeartbeats 4000000 in
theorem k_X11_say {ω : XO} (hω : ω.2.2.2.1 = 1) {L : List Nat} {q : Nat → Nat} {h h' : hp} {p0 : Int32} {p1 : Int32} {r : Int32} (hf : f_X11_say h p0 p1 = some (h', r)) : XM ω yX11_say cX11_say 4 (some .int) rm_X11_say L q h [.ref (q 0), .int p0, .int p1] (some (.int r)) h' := by
  refine XM_intro [(0, .ref (q 0)), (1, .int p0), (2, .int p1)] "SignalBlind" (by decide) rfl rfl (Nat.le_of_ble_eq_true rfl) (fun κ X R => ?_)
  unfold f_X11_say at hf
  refine x_aload_n X dX11_say_0 0 rfl rfl ?_
  refine x_iload_n X dX11_say_1 1 rfl rfl ?_
  obtain ⟨r1, g2, hf⟩ := bnr_some hf
  refine c_X11_112 X hω g2 (hR := ⟨Nat.le_of_ble_eq_true rfl, Nat.le_of_ble_eq_true rfl⟩) ⟨Nat.zero_le _, Nat.zero_le _⟩ (Nat.le_of_ble_eq_true rfl) dX11_say_2 ?_
  refine x_if_eq X 16 dX11_say_5 (by decide) (fun c3 => ?_) (fun c3 => ?_)
  · replace hf := (if_pos c3).symm.trans hf
    refine x_lv [] rfl ?_
    exact k_X11_say_16 hω X R h hf
  · replace hf := (if_neg c3).symm.trans hf
    refine x_aload_n X dX11_say_8 0 rfl rfl ?_
    refine x_iload_n X dX11_say_9 2 rfl rfl ?_
    obtain ⟨r4, g5, hf⟩ := bnr_some hf
    refine c_X11_88 X hω g5 (hR := ⟨Nat.le_of_ble_eq_true rfl, Nat.le_of_ble_eq_true rfl⟩) ⟨Nat.zero_le _, Nat.zero_le _⟩ (Nat.le_of_ble_eq_true rfl) dX11_say_10 ?_
    refine x_if_ne X 18 dX11_say_13 (by decide) (fun c6 => ?_) (fun c6 => ?_)
    · replace hf := (if_pos c6).symm.trans hf
      refine x_lv [] rfl ?_
      exact k_X11_say_16 hω X R h hf
    · replace hf := (if_neg c6).symm.trans hf
      refine x_aload_n X dX11_say_18 0 rfl rfl ?_
      refine x_getsj X (i := 0) 1 fl_X11_14_12 (sdX_0 hω) (ks_0 _) rfl (j := 1) rfl dX11_say_19 ?_
      refine x_getsj X (i := 1) 4 fl_X11_127_4 (sdX_1 hω) (ks_1 _) rfl (j := 5) rfl dX11_say_22 ?_
      refine x_iload_n X dX11_say_25 1 rfl rfl ?_
      obtain ⟨z7, hf⟩ := chk_some hf
      refine x_iald X (i := 5) (n := 5) (sdX_5 hω) (ks_5 _) z7 dX11_say_26 ?_
      refine x_sipush X (v := 9999) dX11_say_27 (by decide) ?_
      refine x_icmp_lt X 36 dX11_say_30 (by decide) (fun c8 => ?_) (fun c8 => ?_)
      · replace hf := (if_pos c8).symm.trans hf
        refine x_aload_n X dX11_say_36 0 rfl rfl ?_
        refine x_aload_n X dX11_say_37 0 rfl rfl ?_
        refine x_iload_n X dX11_say_38 1 rfl rfl ?_
        refine x_aload_n X dX11_say_39 0 rfl rfl ?_
        refine x_getsj X (i := 0) 1 fl_X11_14_12 (sdX_0 hω) (ks_0 _) rfl (j := 1) rfl dX11_say_40 ?_
        refine x_getsj X (i := 1) 1 fl_X11_77_4 (sdX_1 hω) (ks_1 _) rfl (j := 2) rfl dX11_say_43 ?_
        refine x_iload_n X dX11_say_46 2 rfl rfl ?_
        obtain ⟨r9, g10, hf⟩ := bnr_some hf
        refine c_X11_91 X hω g10 (sdX_2 hω) (ks_2 _) (hR := ⟨Nat.le_of_ble_eq_true rfl, Nat.le_of_ble_eq_true rfl⟩) ⟨Nat.zero_le _, Nat.zero_le _⟩ (Nat.le_of_ble_eq_true rfl) dX11_say_47 ?_
        obtain ⟨h11, r12, g13, hf⟩ := bnd_some hf
        refine c_X11_136 X hω g13 (hR := ⟨Nat.le_of_ble_eq_true rfl, Nat.le_of_ble_eq_true rfl⟩) ⟨Nat.zero_le _, Nat.zero_le _⟩ (Nat.le_of_ble_eq_true rfl) dX11_say_50 ?_
        obtain ⟨r14, g15, hf⟩ := bnr_some hf
        refine c_X11_140 X hω g15 (hR := ⟨Nat.le_of_ble_eq_true rfl, Nat.le_of_ble_eq_true rfl⟩) ⟨Nat.zero_le _, Nat.zero_le _⟩ (Nat.le_of_ble_eq_true rfl) dX11_say_53 ?_
        refine x_istore_n X [(3, .int r14), (0, .ref (q 0)), (1, .int p0), (2, .int p1)] dX11_say_56 rfl (Nat.le_of_ble_eq_true rfl) rfl ?_
        refine x_aload_n X dX11_say_57 1 rfl rfl ?_
        refine x_getsj X (i := 0) 1 fl_X11_14_12 (sdX_0 hω) (ks_0 _) rfl (j := 1) rfl dX11_say_58 ?_
        refine x_getsj X (i := 1) 4 fl_X11_127_4 (sdX_1 hω) (ks_1 _) rfl (j := 5) rfl dX11_say_61 ?_
        refine x_iload_n X dX11_say_64 2 rfl rfl ?_
        refine x_dup2 X dX11_say_65 rfl rfl ?_
        obtain ⟨z16, hf⟩ := chk_some hf
        refine x_iald X (i := 5) (n := 5) (sdX_5 hω) (ks_5 _) z16 dX11_say_66 ?_
        refine x_iconst X (v := 1) dX11_say_67 (by decide) ?_
        refine x_iadd X dX11_say_68 ?_
        obtain ⟨z17, hf⟩ := chk_some hf
        refine x_iast X (i := 5) (n := 5) (sdX_5 hω) (ks_5 _) z17 dX11_say_69 ?_
        obtain ⟨h18, eh18, hf⟩ := nm_some hf
        refine x_nmh eh18 ?_
        refine x_iload_n X dX11_say_70 0 rfl rfl ?_
        exact x_retSI X R hf dX11_say_71
      · replace hf := (if_neg c8).symm.trans hf
        refine x_bipush X (v := -3) dX11_say_33 (by decide) ?_
        exact x_retSI X R hf dX11_say_35
theorem mt_X11_say : MT yX11_say cX11_say 4 (some .int) "SignalBlind" 2 := ⟨(mT_2 221 rfl rfl), (mT_2 222 rfl rfl), (mT_1 1 rfl rfl), (mT_2 223 rfl rfl), by decide⟩

abbrev rm_X11_isDigit : Room := { frames := 0, cells := 0, slots := 0, locals := 0 }
def f_X11_isDigit_15 (h : hp) (a2 : Int32) : Option Int32 := (ckZ a2
 (some a2))
def f_X11_isDigit_14 (h : hp) : Option Int32 := (f_X11_isDigit_15 h (0 : Int32))
def f_X11_isDigit (h : hp) (p0 : Int32) : Option Int32 := (if p0 < 0 then
 (f_X11_isDigit_14 h)
 else
 (if p0 < (10 : Int32) then
 (f_X11_isDigit_15 h (1 : Int32))
 else
 (f_X11_isDigit_14 h)))
set_option maxRecDepth 100000 in
set_option maxHeartbeats 4000000 in
theorem k_X11_isDigit_15 {ω : XO} (hω : ω.2.2.2.1 = 1) {κ : XK} (X : XC ω rm_X11_isDigit 1 κ cX11_isDigit "SignalBlind") {L : List Nat} {q : Nat → Nat} {h : hp} {r : Int32} (R : XRet ω rm_X11_isDigit κ (some .boolean) L q h (some (.int r))) : ∀ (a2 : Int32), f_X11_isDigit_15 h a2 = some r → XG ω rm_X11_isDigit 1 κ L q h 0 0 15 [] [.int a2] := by
  intro a2 hf
  unfold f_X11_isDigit_15 at hf
  obtain ⟨z3, hf⟩ := ckZ_some hf
  exact x_retRZ X R z3 hf dX11_isDigit_15
set_option maxRecDepth 100000 in
set_option maxHeartbeats 4000000 in
theorem k_X11_isDigit_14 {ω : XO} (hω : ω.2.2.2.1 = 1) {κ : XK} (X : XC ω rm_X11_isDigit 1 κ cX11_isDigit "SignalBlind") {L : List Nat} {q : Nat → Nat} {h : hp} {r : Int32} (R : XRet ω rm_X11_isDigit κ (some .boolean) L q h (some (.int r))) : f_X11_isDigit_14 h = some r → XG ω rm_X11_isDigit 1 κ L q h 0 0 14 [] [] := by
  intro  hf
  unfold f_X11_isDigit_14 at hf
  refine x_iconst X (v := 0) dX11_isDigit_14 (by decide) ?_
  refine x_lv [] rfl ?_
  exact k_X11_isDigit_15 hω X R _ hf
set_option maxRecDepth 100000 in
set_option maxHeartbeats 4000000 in
theorem k_X11_isDigit {ω : XO} (hω : ω.2.2.2.1 = 1) {L : List Nat} {q : Nat → Nat} {h : hp} {p0 : Int32} {r : Int32} (hf : f_X11_isDigit h p0 = some r) : XM ω yX11_isDigit cX11_isDigit 1 (some .boolean) rm_X11_isDigit L q h [.int p0] (some (.int r)) h := by
  refine XM_intro [(0, .int p0)] "SignalBlind" (by decide) rfl rfl (Nat.le_of_ble_eq_true rfl) (fun κ X R => ?_)
  unfold f_X11_isDigit at hf
  refine x_iload_n X dX11_isDigit_0 0 rfl rfl ?_
  refine x_if_lt X 14 dX11_isDigit_1 (by decide) (fun c1 => ?_) (fun c1 => ?_)
  · replace hf := (if_pos c1).symm.trans hf
    refine x_lv [] rfl ?_
    exact k_X11_isDigit_14 hω X R  hf
  · replace hf := (if_neg c1).symm.trans hf
    refine x_iload_n X dX11_isDigit_4 0 rfl rfl ?_
    refine x_bipush X (v := 10) dX11_isDigit_5 (by decide) ?_
    refine x_icmp_ge X 14 dX11_isDigit_7 (by decide) (fun c4 => ?_) (fun c4 => ?_)
    · replace hf := (if_pos c4).symm.trans hf
      refine x_iconst X (v := 1) dX11_isDigit_10 (by decide) ?_
      refine x_goto X 15 dX11_isDigit_11 (by decide) ?_
      refine x_lv [] rfl ?_
      exact k_X11_isDigit_15 hω X R _ hf
    · replace hf := (if_neg c4).symm.trans hf
      refine x_lv [] rfl ?_
      exact k_X11_isDigit_14 hω X R  hf
theorem mt_X11_isDigit : MS yX11_isDigit cX11_isDigit 1 (some .boolean) 1 := ⟨(mT_2 23 rfl rfl), (mT_1 1 rfl rfl), (mT_2 24 rfl rfl), by decide⟩
theorem c_X11_98 {ω : XO} {rm : Room} {nL : Nat} {κ : XK} {cc : ByteArray} (X : XC ω rm nL κ cc "SignalBlind") (hω : ω.2.2.2.1 = 1) {L : List Nat} {q : Nat → Nat} {h : hp} {cells slots pc : Nat} {lv : List (Nat × Value)} {rest : List Value} {p0 : Int32} {r : Int32} (hf : f_X11_isDigit h p0 = some r) (hR : rm_X11_isDigit.frames + 1 ≤ rm.frames ∧ 8 + (1 + 11) + rm_X11_isDigit.locals ≤ rm.locals) (hcs : cells ≤ rm.cells ∧ slots ≤ rm.slots) (hroom : (rest.map fun v => v.category).sum ≤ 8) (hd : decode cc pc = .ok (.invokestatic 98, 3)) (kk : XG ω rm nL κ L q h cells slots (pc + 3) lv (.int r :: rest)) : XG ω rm nL κ L q h cells slots pc lv (.int p0 :: rest) := x_callS X [.int p0] rest (k_X11_isDigit hω hf) mt_X11_isDigit (mT_2 22 rfl rfl) hR ⟨rfl, rfl⟩ hcs rfl hroom hd kk

abbrev rm_X11_row : Room := { frames := 1, cells := 0, slots := 0, locals := 21 }
def f_X11_row_17 (h : hp) : Option (hp × Int32) := (some (h, (-1 : Int32)))
def f_X11_row (h : hp) (p0 : Int32) (p1 : Int32) (p2 : Int32) : Option (hp × Int32) := (bnr (f_X11_isSender h p0) fun r1 =>
 (if r1 = 0 then
 (f_X11_row_17 h)
 else
 (if p1 < 0 then
 (f_X11_row_17 h)
 else
 (if p1 < (4 : Int32) then
 (bnr (f_X11_isDigit h p2) fun r6 =>
 (if r6 = 0 then
 (some (h, (-2 : Int32)))
 else
 (chk p0 5
 (onO (aR h 4 (p0).toNatClampNeg) none fun i10 =>
 (ckS h i10
 (if (isK h i10 [10]) = 0 then
 (some (h, (-3 : Int32)))
 else
 (nm ((p0 * (4 : Int32)) + p1) fun v13 =>
 (chk v13 20
 (nm (aI h 6 (v13).toNatClampNeg) fun v15 =>
 (chk v13 20
 (nm (tI h 6 (v13).toNatClampNeg p2) fun h17 =>
 (some (h17, v15)))))))))))))
 else
 (f_X11_row_17 h)))))
set_option maxRecDepth 100000 in
set_option maxHeartbeats 4000000 in
theorem k_X11_row_17 {ω : XO} (hω : ω.2.2.2.1 = 1) {κ : XK} (X : XC ω rm_X11_row 6 κ cX11_row "SignalBlind") {L : List Nat} {q : Nat → Nat} {h' : hp} {r : Int32} (R : XRet ω rm_X11_row κ (some .int) L q h' (some (.int r))) : ∀ (h : hp), f_X11_row_17 h = some (h', r) → XG ω rm_X11_row 6 κ L q h 0 0 17 [] [] := by
  intro h hf
  unfold f_X11_row_17 at hf
  refine x_iconst X (v := -1) dX11_row_17 (by decide) ?_
  exact x_retSI X R hf dX11_row_18
set_option maxRecDepth 100000 in
set_option maxHeartbeats 4000000 in
theorem k_X11_row {ω : XO} (hω : ω.2.2.2.1 = 1) {L : List Nat} {q : Nat → Nat} {h h' : hp} {p0 : Int32} {p1 : Int32} {p2 : Int32} {r : Int32} (hf : f_X11_row h p0 p1 p2 = some (h', r)) : XM ω yX11_row cX11_row 6 (some .int) rm_X11_row L q h [.ref (q 0), .int p0, .int p1, .int p2] (some (.int r)) h' := by
  refine XM_intro [(0, .ref (q 0)), (1, .int p0), (2, .int p1), (3, .int p2)] "SignalBlind" (by decide) rfl rfl (Nat.le_of_ble_eq_true rfl) (fun κ X R => ?_)
  unfold f_X11_row at hf
  refine x_aload_n X dX11_row_0 0 rfl rfl ?_
  refine x_iload_n X dX11_row_1 1 rfl rfl ?_
  obtain ⟨r1, g2, hf⟩ := bnr_some hf
  refine c_X11_112 X hω g2 (hR := ⟨Nat.le_of_ble_eq_true rfl, Nat.le_of_ble_eq_true rfl⟩) ⟨Nat.zero_le _, Nat.zero_le _⟩ (Nat.le_of_ble_eq_true rfl) dX11_row_2 ?_
  refine x_if_eq X 17 dX11_row_5 (by decide) (fun c3 => ?_) (fun c3 => ?_)
  · replace hf := (if_pos c3).symm.trans hf
    refine x_lv [] rfl ?_
    exact k_X11_row_17 hω X R h hf
  · replace hf := (if_neg c3).symm.trans hf
    refine x_iload_n X dX11_row_8 2 rfl rfl ?_
    refine x_if_lt X 17 dX11_row_9 (by decide) (fun c4 => ?_) (fun c4 => ?_)
    · replace hf := (if_pos c4).symm.trans hf
      refine x_lv [] rfl ?_
      exact k_X11_row_17 hω X R h hf
    · replace hf := (if_neg c4).symm.trans hf
      refine x_iload_n X dX11_row_12 2 rfl rfl ?_
      refine x_iconst X (v := 4) dX11_row_13 (by decide) ?_
      refine x_icmp_lt X 19 dX11_row_14 (by decide) (fun c5 => ?_) (fun c5 => ?_)
      · replace hf := (if_pos c5).symm.trans hf
        refine x_iload_n X dX11_row_19 3 rfl rfl ?_
        obtain ⟨r6, g7, hf⟩ := bnr_some hf
        refine c_X11_98 X hω g7 (hR := ⟨Nat.le_of_ble_eq_true rfl, Nat.le_of_ble_eq_true rfl⟩) ⟨Nat.zero_le _, Nat.zero_le _⟩ (Nat.le_of_ble_eq_true rfl) dX11_row_20 ?_
        refine x_if_ne X 29 dX11_row_23 (by decide) (fun c8 => ?_) (fun c8 => ?_)
        · replace hf := (if_pos c8).symm.trans hf
          refine x_bipush X (v := -2) dX11_row_26 (by decide) ?_
          exact x_retSI X R hf dX11_row_28
        · replace hf := (if_neg c8).symm.trans hf
          refine x_aload_n X dX11_row_29 0 rfl rfl ?_
          refine x_getsj X (i := 0) 1 fl_X11_14_12 (sdX_0 hω) (ks_0 _) rfl (j := 1) rfl dX11_row_30 ?_
          refine x_getsj X (i := 1) 3 fl_X11_115_4 (sdX_1 hω) (ks_1 _) rfl (j := 4) rfl dX11_row_33 ?_
          refine x_iload_n X dX11_row_36 1 rfl rfl ?_
          obtain ⟨z9, hf⟩ := chk_some hf
          refine x_aald X (i := 4) (n := 5) (e := 4) (by decide) (sdX_4 hω) (ks_4 _) z9 dX11_row_37 ?_
          obtain ⟨i10, ei10, hf⟩ := onO_some hf
          refine x_nn ei10 ?_
          obtain ⟨b11, hf⟩ := ckS_some hf
          refine x_inst_143 X hω b11 dX11_row_38 ?_
          refine x_if_ne X 47 dX11_row_41 (by decide) (fun c12 => ?_) (fun c12 => ?_)
          · replace hf := (if_pos c12).symm.trans hf
            refine x_bipush X (v := -3) dX11_row_44 (by decide) ?_
            exact x_retSI X R hf dX11_row_46
          · replace hf := (if_neg c12).symm.trans hf
            refine x_iload_n X dX11_row_47 1 rfl rfl ?_
            refine x_iconst X (v := 4) dX11_row_48 (by decide) ?_
            refine x_imul X dX11_row_49 ?_
            refine x_iload_n X dX11_row_50 2 rfl rfl ?_
            refine x_iadd X dX11_row_51 ?_
            obtain ⟨v13, ev13, hf⟩ := nm_some hf
            refine x_nmI ev13 ?_
            refine x_istore X [(4, .int v13), (0, .ref (q 0)), (1, .int p0), (2, .int p1), (3, .int p2)] dX11_row_52 (Nat.le_of_ble_eq_true rfl) rfl ?_
            refine x_aload_n X dX11_row_54 1 rfl rfl ?_
            refine x_getsj X (i := 0) 1 fl_X11_14_12 (sdX_0 hω) (ks_0 _) rfl (j := 1) rfl dX11_row_55 ?_
            refine x_getsj X (i := 1) 5 fl_X11_145_4 (sdX_1 hω) (ks_1 _) rfl (j := 6) rfl dX11_row_58 ?_
            refine x_iload X dX11_row_61 0 rfl ?_
            obtain ⟨z14, hf⟩ := chk_some hf
            refine x_iald X (i := 6) (n := 20) (sdX_6 hω) (ks_6 _) z14 dX11_row_63 ?_
            obtain ⟨v15, ev15, hf⟩ := nm_some hf
            refine x_nmI ev15 ?_
            refine x_istore X [(5, .int v15), (4, .int v13), (0, .ref (q 0)), (1, .int p0), (2, .int p1), (3, .int p2)] dX11_row_64 (Nat.le_of_ble_eq_true rfl) rfl ?_
            refine x_aload_n X dX11_row_66 2 rfl rfl ?_
            refine x_getsj X (i := 0) 1 fl_X11_14_12 (sdX_0 hω) (ks_0 _) rfl (j := 1) rfl dX11_row_67 ?_
            refine x_getsj X (i := 1) 5 fl_X11_145_4 (sdX_1 hω) (ks_1 _) rfl (j := 6) rfl dX11_row_70 ?_
            refine x_iload X dX11_row_73 1 rfl ?_
            refine x_iload_n X dX11_row_75 5 rfl rfl ?_
            obtain ⟨z16, hf⟩ := chk_some hf
            refine x_iast X (i := 6) (n := 20) (sdX_6 hω) (ks_6 _) z16 dX11_row_76 ?_
            obtain ⟨h17, eh17, hf⟩ := nm_some hf
            refine x_nmh eh17 ?_
            refine x_iload X dX11_row_77 0 rfl ?_
            exact x_retSI X R hf dX11_row_79
      · replace hf := (if_neg c5).symm.trans hf
        refine x_lv [] rfl ?_
        exact k_X11_row_17 hω X R h hf
theorem mt_X11_row : MT yX11_row cX11_row 6 (some .int) "SignalBlind" 3 := ⟨(mT_2 225 rfl rfl), (mT_2 226 rfl rfl), (mT_1 1 rfl rfl), (mT_2 227 rfl rfl), by decide⟩

abbrev rm_X11_feed : Room := { frames := 1, cells := 0, slots := 0, locals := 21 }
def f_X11_feed_10 (h : hp) : Option (hp × Int32) := (some (h, (-2 : Int32)))
def f_X11_feed_36 (h : hp) (a9 : Int32) : Option (hp × Int32) := (some (h, a9))
def f_X11_feed (h : hp) (p0 : Int32) : Option (hp × Int32) := (if p0 < 0 then
 (f_X11_feed_10 h)
 else
 (if (127 : Int32) < p0 then
 (f_X11_feed_10 h)
 else
 (bnr (f_X2_isFull h 25) fun r3 =>
 (if r3 = 0 then
 (bnd (f_X2_add h 25 p0) fun h6 r7 =>
 (f_X11_feed_36 h6 r7))
 else
 (f_X11_feed_36 h (-4 : Int32))))))
set_option maxRecDepth 100000 in
set_option maxHeartbeats 4000000 in
theorem k_X11_feed_10 {ω : XO} (hω : ω.2.2.2.1 = 1) {κ : XK} (X : XC ω rm_X11_feed 2 κ cX11_feed "SignalBlind") {L : List Nat} {q : Nat → Nat} {h' : hp} {r : Int32} (R : XRet ω rm_X11_feed κ (some .int) L q h' (some (.int r))) : ∀ (h : hp), f_X11_feed_10 h = some (h', r) → XG ω rm_X11_feed 2 κ L q h 0 0 10 [] [] := by
  intro h hf
  unfold f_X11_feed_10 at hf
  refine x_bipush X (v := -2) dX11_feed_10 (by decide) ?_
  exact x_retSI X R hf dX11_feed_12
set_option maxRecDepth 100000 in
set_option maxHeartbeats 4000000 in
theorem k_X11_feed_36 {ω : XO} (hω : ω.2.2.2.1 = 1) {κ : XK} (X : XC ω rm_X11_feed 2 κ cX11_feed "SignalBlind") {L : List Nat} {q : Nat → Nat} {h' : hp} {r : Int32} (R : XRet ω rm_X11_feed κ (some .int) L q h' (some (.int r))) : ∀ (h : hp) (a9 : Int32), f_X11_feed_36 h a9 = some (h', r) → XG ω rm_X11_feed 2 κ L q h 0 0 36 [] [.int a9] := by
  intro h a9 hf
  unfold f_X11_feed_36 at hf
  exact x_retSI X R hf dX11_feed_36
set_option maxRecDepth 100000 in
set_option maxHeartbeats 4000000 in
theorem k_X11_feed {ω : XO} (hω : ω.2.2.2.1 = 1) {L : List Nat} {q : Nat → Nat} {h h' : hp} {p0 : Int32} {r : Int32} (hf : f_X11_feed h p0 = some (h', r)) : XM ω yX11_feed cX11_feed 2 (some .int) rm_X11_feed L q h [.ref (q 0), .int p0] (some (.int r)) h' := by
  refine XM_intro [(0, .ref (q 0)), (1, .int p0)] "SignalBlind" (by decide) rfl rfl (Nat.le_of_ble_eq_true rfl) (fun κ X R => ?_)
  unfold f_X11_feed at hf
  refine x_iload_n X dX11_feed_0 1 rfl rfl ?_
  refine x_if_lt X 10 dX11_feed_1 (by decide) (fun c1 => ?_) (fun c1 => ?_)
  · replace hf := (if_pos c1).symm.trans hf
    refine x_lv [] rfl ?_
    exact k_X11_feed_10 hω X R h hf
  · replace hf := (if_neg c1).symm.trans hf
    refine x_iload_n X dX11_feed_4 1 rfl rfl ?_
    refine x_bipush X (v := 127) dX11_feed_5 (by decide) ?_
    refine x_icmp_le X 13 dX11_feed_7 (by decide) (fun c2 => ?_) (fun c2 => ?_)
    · replace hf := (if_pos c2).symm.trans hf
      refine x_lv [] rfl ?_
      exact k_X11_feed_10 hω X R h hf
    · replace hf := (if_neg c2).symm.trans hf
      refine x_aload_n X dX11_feed_13 0 rfl rfl ?_
      refine x_getsj X (i := 0) 25 fl_X11_32_12 (sdX_0 hω) (ks_0 _) rfl (j := 25) rfl dX11_feed_14 ?_
      obtain ⟨r3, g4, hf⟩ := bnr_some hf
      refine c_X11_80 X hω g4 (sdX_25 hω) (ks_25 _) (hR := ⟨Nat.le_of_ble_eq_true rfl, Nat.le_of_ble_eq_true rfl⟩) ⟨Nat.zero_le _, Nat.zero_le _⟩ (Nat.le_of_ble_eq_true rfl) dX11_feed_17 ?_
      refine x_if_eq X 28 dX11_feed_20 (by decide) (fun c5 => ?_) (fun c5 => ?_)
      · replace hf := (if_pos c5).symm.trans hf
        refine x_aload_n X dX11_feed_28 0 rfl rfl ?_
        refine x_getsj X (i := 0) 25 fl_X11_32_12 (sdX_0 hω) (ks_0 _) rfl (j := 25) rfl dX11_feed_29 ?_
        refine x_iload_n X dX11_feed_32 1 rfl rfl ?_
        obtain ⟨h6, r7, g8, hf⟩ := bnd_some hf
        refine c_X11_84 X hω g8 (sdX_25 hω) (ks_25 _) (hR := ⟨Nat.le_of_ble_eq_true rfl, Nat.le_of_ble_eq_true rfl⟩) ⟨Nat.zero_le _, Nat.zero_le _⟩ (Nat.le_of_ble_eq_true rfl) dX11_feed_33 ?_
        refine x_lv [] rfl ?_
        exact k_X11_feed_36 hω X R h6 _ hf
      · replace hf := (if_neg c5).symm.trans hf
        refine x_bipush X (v := -4) dX11_feed_23 (by decide) ?_
        refine x_goto X 36 dX11_feed_25 (by decide) ?_
        refine x_lv [] rfl ?_
        exact k_X11_feed_36 hω X R h _ hf
theorem mt_X11_feed : MT yX11_feed cX11_feed 2 (some .int) "SignalBlind" 1 := ⟨(mT_2 229 rfl rfl), (mT_2 230 rfl rfl), (mT_1 1 rfl rfl), (mT_2 231 rfl rfl), by decide⟩

abbrev rm_X11_closestWords : Room := { frames := 2, cells := 0, slots := 0, locals := 41 }
def f_X11_closestWords_92 (h : hp) (k9 : Int32 → Int32 → Int32 → Int32 → Option Int32) (k30 : Int32 → Int32 → Int32 → Int32 → Int32 → Option Int32) (a21 : Int32) (a22 : Int32) (a23 : Int32) (a24 : Int32) (a25 : Int32) : Option Int32 := (nm (a25 + (1 : Int32)) fun v26 =>
 (k30 a21 a22 a23 a24 v26))
def f_X11_closestWords_30 (h : hp) (k9 : Int32 → Int32 → Int32 → Int32 → Option Int32) : Nat → Int32 → Int32 → Int32 → Int32 → Int32 → Option Int32
  | 0, _, _, _, _, _ => none
  | n + 1, a7, a8, a9, a10, a11 => (if a11 < (hI h 2 1) then
 (bnr (f_X2_get h 2 a10) fun r13 =>
 (bnr (f_X2_get h 2 a11) fun r15 =>
 (bnr (f_X11_apart h r13 r15) fun r17 =>
 (if r17 < a8 then
 (nm (((10 : Int32) * a10) + a11) fun v20 =>
 (f_X11_closestWords_92 h k9 (f_X11_closestWords_30 h k9 n) a7 r17 v20 a10 a11))
 else
 (f_X11_closestWords_92 h k9 (f_X11_closestWords_30 h k9 n) a7 a8 a9 a10 a11)))))
 else
 (nm (a10 + (1 : Int32)) fun v27 =>
 (k9 a7 a8 a9 v27)))
def f_X11_closestWords_119 (h : hp) (a31 : Int32) : Option Int32 := (some a31)
def f_X11_closestWords_114 (h : hp) (a30 : Int32) : Option Int32 := (f_X11_closestWords_119 h a30)
def f_X11_closestWords_9 (h : hp) : Nat → Int32 → Int32 → Int32 → Int32 → Option Int32
  | 0, _, _, _, _ => none
  | n + 1, a1, a2, a3, a4 => (if a4 < (hI h 2 1) then
 (nm (a4 + (1 : Int32)) fun v6 =>
 (f_X11_closestWords_30 h (f_X11_closestWords_9 h n) 2000 a1 a2 a3 a4 v6))
 else
 (if a1 = 0 then
 (if a3 = (-5 : Int32) then
 (f_X11_closestWords_114 h a3)
 else
 (f_X11_closestWords_119 h a2))
 else
 (f_X11_closestWords_114 h a3)))
def f_X11_closestWords (h : hp) (p0 : Int32) : Option Int32 := (f_X11_closestWords_9 h 2000 p0 (11 : Int32) (-5 : Int32) (0 : Int32))
set_option maxRecDepth 100000 in
set_option maxHeartbeats 4000000 in
theorem k_X11_closestWords_92 {ω : XO} (hω : ω.2.2.2.1 = 1) {κ : XK} (X : XC ω rm_X11_closestWords 7 κ cX11_closestWords "SignalBlind") {L : List Nat} {q : Nat → Nat} {h : hp} {r : Int32} (R : XRet ω rm_X11_closestWords κ (some .int) L q h (some (.int r))) (k9 : Int32 → Int32 → Int32 → Int32 → Option Int32) (hk9 : ∀ (a1 : Int32) (a2 : Int32) (a3 : Int32) (a4 : Int32), k9 a1 a2 a3 a4 = some r → XG ω rm_X11_closestWords 7 κ L q h 0 0 9 [(0, .ref (q 0)), (1, .int a1), (2, .int a2), (3, .int a3), (4, .int a4)] []) (k30 : Int32 → Int32 → Int32 → Int32 → Int32 → Option Int32) (hk30 : ∀ (a7 : Int32) (a8 : Int32) (a9 : Int32) (a10 : Int32) (a11 : Int32), k30 a7 a8 a9 a10 a11 = some r → XG ω rm_X11_closestWords 7 κ L q h 0 0 30 [(0, .ref (q 0)), (1, .int a7), (2, .int a8), (3, .int a9), (4, .int a10), (5, .int a11)] []) : ∀ (a21 : Int32) (a22 : Int32) (a23 : Int32) (a24 : Int32) (a25 : Int32), f_X11_closestWords_92 h k9 k30 a21 a22 a23 a24 a25 = some r → XG ω rm_X11_closestWords 7 κ L q h 0 0 92 [(0, .ref (q 0)), (1, .int a21), (2, .int a22), (3, .int a23), (4, .int a24), (5, .int a25)] [] := by
  intro a21 a22 a23 a24 a25 hf
  unfold f_X11_closestWords_92 at hf
  obtain ⟨v26, ev26, hf⟩ := nm_some hf
  refine x_iincN X (v := 1) ev26 [(5, .int v26), (0, .ref (q 0)), (1, .int a21), (2, .int a22), (3, .int a23), (4, .int a24)] dX11_closestWords_92 5 rfl (by decide) (Nat.le_of_ble_eq_true rfl) rfl ?_
  refine x_goto X 30 dX11_closestWords_95 (by decide) ?_
  refine x_lv [1, 2, 3, 4, 5, 0] rfl ?_
  exact hk30 _ _ _ _ _ hf
set_option maxRecDepth 100000 in
set_option maxHeartbeats 4000000 in
theorem k_X11_closestWords_30 {ω : XO} (hω : ω.2.2.2.1 = 1) {κ : XK} (X : XC ω rm_X11_closestWords 7 κ cX11_closestWords "SignalBlind") {L : List Nat} {q : Nat → Nat} {h : hp} {r : Int32} (R : XRet ω rm_X11_closestWords κ (some .int) L q h (some (.int r))) (k9 : Int32 → Int32 → Int32 → Int32 → Option Int32) (hk9 : ∀ (a1 : Int32) (a2 : Int32) (a3 : Int32) (a4 : Int32), k9 a1 a2 a3 a4 = some r → XG ω rm_X11_closestWords 7 κ L q h 0 0 9 [(0, .ref (q 0)), (1, .int a1), (2, .int a2), (3, .int a3), (4, .int a4)] []) : ∀ (n : Nat) (a7 : Int32) (a8 : Int32) (a9 : Int32) (a10 : Int32) (a11 : Int32), f_X11_closestWords_30 h k9 n a7 a8 a9 a10 a11 = some r → XG ω rm_X11_closestWords 7 κ L q h 0 0 30 [(0, .ref (q 0)), (1, .int a7), (2, .int a8), (3, .int a9), (4, .int a10), (5, .int a11)] [] := by
  intro n
  induction n with
  | zero =>
    intro a7 a8 a9 a10 a11 hf
    have hf : (none : Option Int32) = some r := hf
    cases hf
  | succ n ih =>
    intro a7 a8 a9 a10 a11 hf
    rw [f_X11_closestWords_30] at hf
    refine x_iload X dX11_closestWords_30 5 rfl ?_
    refine x_aload_n X dX11_closestWords_32 0 rfl rfl ?_
    refine x_getsj X (i := 0) 1 fl_X11_14_12 (sdX_0 hω) (ks_0 _) rfl (j := 1) rfl dX11_closestWords_33 ?_
    refine x_getsj X (i := 1) 1 fl_X11_77_4 (sdX_1 hω) (ks_1 _) rfl (j := 2) rfl dX11_closestWords_36 ?_
    refine x_geti X (i := 2) fl_X11_179_3 (sdX_2 hω) (ks_2 _) rfl dX11_closestWords_39 ?_
    refine x_icmp_ge X 98 dX11_closestWords_42 (by decide) (fun c12 => ?_) (fun c12 => ?_)
    · replace hf := (if_pos c12).symm.trans hf
      refine x_aload_n X dX11_closestWords_45 0 rfl rfl ?_
      refine x_getsj X (i := 0) 1 fl_X11_14_12 (sdX_0 hω) (ks_0 _) rfl (j := 1) rfl dX11_closestWords_46 ?_
      refine x_getsj X (i := 1) 1 fl_X11_77_4 (sdX_1 hω) (ks_1 _) rfl (j := 2) rfl dX11_closestWords_49 ?_
      refine x_iload X dX11_closestWords_52 4 rfl ?_
      obtain ⟨r13, g14, hf⟩ := bnr_some hf
      refine c_X11_91 X hω g14 (sdX_2 hω) (ks_2 _) (hR := ⟨Nat.le_of_ble_eq_true rfl, Nat.le_of_ble_eq_true rfl⟩) ⟨Nat.zero_le _, Nat.zero_le _⟩ (Nat.le_of_ble_eq_true rfl) dX11_closestWords_54 ?_
      refine x_aload_n X dX11_closestWords_57 0 rfl rfl ?_
      refine x_getsj X (i := 0) 1 fl_X11_14_12 (sdX_0 hω) (ks_0 _) rfl (j := 1) rfl dX11_closestWords_58 ?_
      refine x_getsj X (i := 1) 1 fl_X11_77_4 (sdX_1 hω) (ks_1 _) rfl (j := 2) rfl dX11_closestWords_61 ?_
      refine x_iload X dX11_closestWords_64 5 rfl ?_
      obtain ⟨r15, g16, hf⟩ := bnr_some hf
      refine c_X11_91 X hω g16 (sdX_2 hω) (ks_2 _) (hR := ⟨Nat.le_of_ble_eq_true rfl, Nat.le_of_ble_eq_true rfl⟩) ⟨Nat.zero_le _, Nat.zero_le _⟩ (Nat.le_of_ble_eq_true rfl) dX11_closestWords_66 ?_
      obtain ⟨r17, g18, hf⟩ := bnr_some hf
      refine c_X11_282 X hω g18 (hR := ⟨Nat.le_of_ble_eq_true rfl, Nat.le_of_ble_eq_true rfl⟩) ⟨Nat.zero_le _, Nat.zero_le _⟩ (Nat.le_of_ble_eq_true rfl) dX11_closestWords_69 ?_
      refine x_istore X [(6, .int r17), (0, .ref (q 0)), (1, .int a7), (2, .int a8), (3, .int a9), (4, .int a10), (5, .int a11)] dX11_closestWords_72 (Nat.le_of_ble_eq_true rfl) rfl ?_
      refine x_iload X dX11_closestWords_74 0 rfl ?_
      refine x_iload_n X dX11_closestWords_76 3 rfl rfl ?_
      refine x_icmp_ge X 92 dX11_closestWords_77 (by decide) (fun c19 => ?_) (fun c19 => ?_)
      · replace hf := (if_pos c19).symm.trans hf
        refine x_iload X dX11_closestWords_80 0 rfl ?_
        refine x_istore_n X [(2, .int r17), (6, .int r17), (0, .ref (q 0)), (1, .int a7), (3, .int a9), (4, .int a10), (5, .int a11)] dX11_closestWords_82 rfl (Nat.le_of_ble_eq_true rfl) rfl ?_
        refine x_bipush X (v := 10) dX11_closestWords_83 (by decide) ?_
        refine x_iload X dX11_closestWords_85 5 rfl ?_
        refine x_imul X dX11_closestWords_87 ?_
        refine x_iload X dX11_closestWords_88 6 rfl ?_
        refine x_iadd X dX11_closestWords_90 ?_
        obtain ⟨v20, ev20, hf⟩ := nm_some hf
        refine x_nmI ev20 ?_
        refine x_istore_n X [(3, .int v20), (2, .int r17), (6, .int r17), (0, .ref (q 0)), (1, .int a7), (4, .int a10), (5, .int a11)] dX11_closestWords_91 rfl (Nat.le_of_ble_eq_true rfl) rfl ?_
        refine x_lv [3, 4, 1, 0, 5, 6] rfl ?_
        exact k_X11_closestWords_92 hω X R _ hk9 _ ih _ _ _ _ _ hf
      · replace hf := (if_neg c19).symm.trans hf
        refine x_lv [1, 2, 3, 4, 5, 6] rfl ?_
        exact k_X11_closestWords_92 hω X R _ hk9 _ ih _ _ _ _ _ hf
    · replace hf := (if_neg c12).symm.trans hf
      obtain ⟨v27, ev27, hf⟩ := nm_some hf
      refine x_iincN X (v := 1) ev27 [(4, .int v27), (0, .ref (q 0)), (1, .int a7), (2, .int a8), (3, .int a9), (5, .int a11)] dX11_closestWords_98 4 rfl (by decide) (Nat.le_of_ble_eq_true rfl) rfl ?_
      refine x_goto X 9 dX11_closestWords_101 (by decide) ?_
      refine x_lv [1, 2, 3, 4, 0] rfl ?_
      exact hk9 _ _ _ _ hf
set_option maxRecDepth 100000 in
set_option maxHeartbeats 4000000 in
theorem k_X11_closestWords_119 {ω : XO} (hω : ω.2.2.2.1 = 1) {κ : XK} (X : XC ω rm_X11_closestWords 7 κ cX11_closestWords "SignalBlind") {L : List Nat} {q : Nat → Nat} {h : hp} {r : Int32} (R : XRet ω rm_X11_closestWords κ (some .int) L q h (some (.int r))) : ∀ (a31 : Int32), f_X11_closestWords_119 h a31 = some r → XG ω rm_X11_closestWords 7 κ L q h 0 0 119 [] [.int a31] := by
  intro a31 hf
  unfold f_X11_closestWords_119 at hf
  exact x_retRI X R hf dX11_closestWords_119
set_option maxRecDepth 100000 in
set_option maxHeartbeats 4000000 in
theorem k_X11_closestWords_114 {ω : XO} (hω : ω.2.2.2.1 = 1) {κ : XK} (X : XC ω rm_X11_closestWords 7 κ cX11_closestWords "SignalBlind") {L : List Nat} {q : Nat → Nat} {h : hp} {r : Int32} (R : XRet ω rm_X11_closestWords κ (some .int) L q h (some (.int r))) : ∀ (a30 : Int32), f_X11_closestWords_114 h a30 = some r → XG ω rm_X11_closestWords 7 κ L q h 0 0 114 [(3, .int a30)] [] := by
  intro a30 hf
  unfold f_X11_closestWords_114 at hf
  refine x_iload_n X dX11_closestWords_114 0 rfl rfl ?_
  refine x_goto X 119 dX11_closestWords_115 (by decide) ?_
  refine x_lv [] rfl ?_
  exact k_X11_closestWords_119 hω X R _ hf
set_option maxRecDepth 100000 in
set_option maxHeartbeats 4000000 in
theorem k_X11_closestWords_9 {ω : XO} (hω : ω.2.2.2.1 = 1) {κ : XK} (X : XC ω rm_X11_closestWords 7 κ cX11_closestWords "SignalBlind") {L : List Nat} {q : Nat → Nat} {h : hp} {r : Int32} (R : XRet ω rm_X11_closestWords κ (some .int) L q h (some (.int r))) : ∀ (n : Nat) (a1 : Int32) (a2 : Int32) (a3 : Int32) (a4 : Int32), f_X11_closestWords_9 h n a1 a2 a3 a4 = some r → XG ω rm_X11_closestWords 7 κ L q h 0 0 9 [(0, .ref (q 0)), (1, .int a1), (2, .int a2), (3, .int a3), (4, .int a4)] [] := by
  intro n
  induction n with
  | zero =>
    intro a1 a2 a3 a4 hf
    have hf : (none : Option Int32) = some r := hf
    cases hf
  | succ n ih =>
    intro a1 a2 a3 a4 hf
    rw [f_X11_closestWords_9] at hf
    refine x_iload X dX11_closestWords_9 4 rfl ?_
    refine x_aload_n X dX11_closestWords_11 0 rfl rfl ?_
    refine x_getsj X (i := 0) 1 fl_X11_14_12 (sdX_0 hω) (ks_0 _) rfl (j := 1) rfl dX11_closestWords_12 ?_
    refine x_getsj X (i := 1) 1 fl_X11_77_4 (sdX_1 hω) (ks_1 _) rfl (j := 2) rfl dX11_closestWords_15 ?_
    refine x_geti X (i := 2) fl_X11_179_3 (sdX_2 hω) (ks_2 _) rfl dX11_closestWords_18 ?_
    refine x_icmp_ge X 104 dX11_closestWords_21 (by decide) (fun c5 => ?_) (fun c5 => ?_)
    · replace hf := (if_pos c5).symm.trans hf
      refine x_iload X dX11_closestWords_24 4 rfl ?_
      refine x_iconst X (v := 1) dX11_closestWords_26 (by decide) ?_
      refine x_iadd X dX11_closestWords_27 ?_
      obtain ⟨v6, ev6, hf⟩ := nm_some hf
      refine x_nmI ev6 ?_
      refine x_istore X [(5, .int v6), (0, .ref (q 0)), (1, .int a1), (2, .int a2), (3, .int a3), (4, .int a4)] dX11_closestWords_28 (Nat.le_of_ble_eq_true rfl) rfl ?_
      refine x_lv [1, 2, 3, 4, 5, 0] rfl ?_
      exact k_X11_closestWords_30 hω X R _ ih _ _ _ _ _ _ hf
    · replace hf := (if_neg c5).symm.trans hf
      refine x_iload_n X dX11_closestWords_104 1 rfl rfl ?_
      refine x_if_ne X 114 dX11_closestWords_105 (by decide) (fun c28 => ?_) (fun c28 => ?_)
      · replace hf := (if_pos c28).symm.trans hf
        refine x_iload_n X dX11_closestWords_108 3 rfl rfl ?_
        refine x_bipush X (v := -5) dX11_closestWords_109 (by decide) ?_
        refine x_icmp_ne X 118 dX11_closestWords_111 (by decide) (fun c29 => ?_) (fun c29 => ?_)
        · replace hf := (if_pos c29).symm.trans hf
          refine x_lv [3] rfl ?_
          exact k_X11_closestWords_114 hω X R _ hf
        · replace hf := (if_neg c29).symm.trans hf
          refine x_iload_n X dX11_closestWords_118 2 rfl rfl ?_
          refine x_lv [] rfl ?_
          exact k_X11_closestWords_119 hω X R _ hf
      · replace hf := (if_neg c28).symm.trans hf
        refine x_lv [3] rfl ?_
        exact k_X11_closestWords_114 hω X R _ hf
set_option maxRecDepth 100000 in
set_option maxHeartbeats 4000000 in
theorem k_X11_closestWords {ω : XO} (hω : ω.2.2.2.1 = 1) {L : List Nat} {q : Nat → Nat} {h : hp} {p0 : Int32} {r : Int32} (hf : f_X11_closestWords h p0 = some r) : XM ω yX11_closestWords cX11_closestWords 7 (some .int) rm_X11_closestWords L q h [.ref (q 0), .int p0] (some (.int r)) h := by
  refine XM_intro [(0, .ref (q 0)), (1, .int p0)] "SignalBlind" (by decide) rfl rfl (Nat.le_of_ble_eq_true rfl) (fun κ X R => ?_)
  unfold f_X11_closestWords at hf
  refine x_bipush X (v := 11) dX11_closestWords_0 (by decide) ?_
  refine x_istore_n X [(2, .int (11 : Int32)), (0, .ref (q 0)), (1, .int p0)] dX11_closestWords_2 rfl (Nat.le_of_ble_eq_true rfl) rfl ?_
  refine x_bipush X (v := -5) dX11_closestWords_3 (by decide) ?_
  refine x_istore_n X [(3, .int (-5 : Int32)), (2, .int (11 : Int32)), (0, .ref (q 0)), (1, .int p0)] dX11_closestWords_5 rfl (Nat.le_of_ble_eq_true rfl) rfl ?_
  refine x_iconst X (v := 0) dX11_closestWords_6 (by decide) ?_
  refine x_istore X [(4, .int (0 : Int32)), (3, .int (-5 : Int32)), (2, .int (11 : Int32)), (0, .ref (q 0)), (1, .int p0)] dX11_closestWords_7 (Nat.le_of_ble_eq_true rfl) rfl ?_
  refine x_lv [3, 4, 2, 1, 0] rfl ?_
  exact k_X11_closestWords_9 hω X R _ _ _ _ _ hf
theorem mt_X11_closestWords : MT yX11_closestWords cX11_closestWords 7 (some .int) "SignalBlind" 1 := ⟨(mT_3 152 rfl rfl), (mTp (q := (yX11_closestWords, 12)) (by decide +kernel) rfl), (mT_1 1 rfl rfl), (mT_3 153 rfl rfl), by decide⟩
theorem c_X11_165 {ω : XO} {rm : Room} {nL : Nat} {κ : XK} {cc : ByteArray} (X : XC ω rm nL κ cc "SignalBlind") (hω : ω.2.2.2.1 = 1) {L : List Nat} {q : Nat → Nat} {h : hp} {cells slots pc : Nat} {lv : List (Nat × Value)} {rest : List Value} {p0 : Int32} {r : Int32} (hf : f_X11_closestWords h p0 = some r) (hR : rm_X11_closestWords.frames + 1 ≤ rm.frames ∧ 8 + (7 + 11) + rm_X11_closestWords.locals ≤ rm.locals) (hcs : cells ≤ rm.cells ∧ slots ≤ rm.slots) (hroom : (rest.map fun v => v.category).sum ≤ 8) (hd : decode cc pc = .ok (.invokevirtual 165, 3)) (kk : XG ω rm nL κ L q h cells slots (pc + 3) lv (.int r :: rest)) : XG ω rm nL κ L q h cells slots pc lv (.int p0 :: .ref (q 0) :: rest) := x_callV X [.int p0] rest (k_X11_closestWords hω hf) mt_X11_closestWords (mT_3 150 rfl rfl) hR ⟨rfl, rfl⟩ hcs (sdX_0 hω) (ks_0 _) (by decide) rfl rfl hroom hd kk

abbrev rm_X11_leastApart : Room := { frames := 2, cells := 0, slots := 0, locals := 41 }
def f_X11_leastApart_5 (h : hp) : Nat → Int32 → Int32 → Int32 → Option Int32
  | 0, _, _, _ => none
  | n + 1, a1, a2, a3 => (if a3 < (hI h 2 1) then
 (bnr (f_X2_get h 2 a3) fun r5 =>
 (bnr (f_X11_apart h a1 r5) fun r7 =>
 (nm (mnI a2 r7) fun v9 =>
 (nm (a3 + (1 : Int32)) fun v10 =>
 ((f_X11_leastApart_5 h n) a1 v9 v10)))))
 else
 (some a2))
def f_X11_leastApart (h : hp) (p0 : Int32) : Option Int32 := (f_X11_leastApart_5 h 2000 p0 (11 : Int32) (0 : Int32))
set_option maxRecDepth 100000 in
set_option maxHeartbeats 4000000 in
theorem k_X11_leastApart_5 {ω : XO} (hω : ω.2.2.2.1 = 1) {κ : XK} (X : XC ω rm_X11_leastApart 4 κ cX11_leastApart "SignalBlind") {L : List Nat} {q : Nat → Nat} {h : hp} {r : Int32} (R : XRet ω rm_X11_leastApart κ (some .int) L q h (some (.int r))) : ∀ (n : Nat) (a1 : Int32) (a2 : Int32) (a3 : Int32), f_X11_leastApart_5 h n a1 a2 a3 = some r → XG ω rm_X11_leastApart 4 κ L q h 0 0 5 [(0, .ref (q 0)), (1, .int a1), (2, .int a2), (3, .int a3)] [] := by
  intro n
  induction n with
  | zero =>
    intro a1 a2 a3 hf
    have hf : (none : Option Int32) = some r := hf
    cases hf
  | succ n ih =>
    intro a1 a2 a3 hf
    rw [f_X11_leastApart_5] at hf
    refine x_iload_n X dX11_leastApart_5 3 rfl rfl ?_
    refine x_aload_n X dX11_leastApart_6 0 rfl rfl ?_
    refine x_getsj X (i := 0) 1 fl_X11_14_12 (sdX_0 hω) (ks_0 _) rfl (j := 1) rfl dX11_leastApart_7 ?_
    refine x_getsj X (i := 1) 1 fl_X11_77_4 (sdX_1 hω) (ks_1 _) rfl (j := 2) rfl dX11_leastApart_10 ?_
    refine x_geti X (i := 2) fl_X11_179_3 (sdX_2 hω) (ks_2 _) rfl dX11_leastApart_13 ?_
    refine x_icmp_ge X 45 dX11_leastApart_16 (by decide) (fun c4 => ?_) (fun c4 => ?_)
    · replace hf := (if_pos c4).symm.trans hf
      refine x_iload_n X dX11_leastApart_19 2 rfl rfl ?_
      refine x_iload_n X dX11_leastApart_20 1 rfl rfl ?_
      refine x_aload_n X dX11_leastApart_21 0 rfl rfl ?_
      refine x_getsj X (i := 0) 1 fl_X11_14_12 (sdX_0 hω) (ks_0 _) rfl (j := 1) rfl dX11_leastApart_22 ?_
      refine x_getsj X (i := 1) 1 fl_X11_77_4 (sdX_1 hω) (ks_1 _) rfl (j := 2) rfl dX11_leastApart_25 ?_
      refine x_iload_n X dX11_leastApart_28 3 rfl rfl ?_
      obtain ⟨r5, g6, hf⟩ := bnr_some hf
      refine c_X11_91 X hω g6 (sdX_2 hω) (ks_2 _) (hR := ⟨Nat.le_of_ble_eq_true rfl, Nat.le_of_ble_eq_true rfl⟩) ⟨Nat.zero_le _, Nat.zero_le _⟩ (Nat.le_of_ble_eq_true rfl) dX11_leastApart_29 ?_
      obtain ⟨r7, g8, hf⟩ := bnr_some hf
      refine c_X11_282 X hω g8 (hR := ⟨Nat.le_of_ble_eq_true rfl, Nat.le_of_ble_eq_true rfl⟩) ⟨Nat.zero_le _, Nat.zero_le _⟩ (Nat.le_of_ble_eq_true rfl) dX11_leastApart_32 ?_
      refine x_mmin_X11_291 X (Nat.le_of_ble_eq_true rfl) ⟨Nat.le_of_ble_eq_true rfl, Nat.le_of_ble_eq_true rfl⟩ ⟨Nat.zero_le _, Nat.zero_le _⟩ dX11_leastApart_35 ?_
      obtain ⟨v9, ev9, hf⟩ := nm_some hf
      refine x_nmI ev9 ?_
      refine x_istore_n X [(2, .int v9), (0, .ref (q 0)), (1, .int a1), (3, .int a3)] dX11_leastApart_38 rfl (Nat.le_of_ble_eq_true rfl) rfl ?_
      obtain ⟨v10, ev10, hf⟩ := nm_some hf
      refine x_iincN X (v := 1) ev10 [(3, .int v10), (2, .int v9), (0, .ref (q 0)), (1, .int a1)] dX11_leastApart_39 3 rfl (by decide) (Nat.le_of_ble_eq_true rfl) rfl ?_
      refine x_goto X 5 dX11_leastApart_42 (by decide) ?_
      refine x_lv [2, 3, 1, 0] rfl ?_
      exact ih _ _ _ hf
    · replace hf := (if_neg c4).symm.trans hf
      refine x_iload_n X dX11_leastApart_45 2 rfl rfl ?_
      exact x_retRI X R hf dX11_leastApart_46
set_option maxRecDepth 100000 in
set_option maxHeartbeats 4000000 in
theorem k_X11_leastApart {ω : XO} (hω : ω.2.2.2.1 = 1) {L : List Nat} {q : Nat → Nat} {h : hp} {p0 : Int32} {r : Int32} (hf : f_X11_leastApart h p0 = some r) : XM ω yX11_leastApart cX11_leastApart 4 (some .int) rm_X11_leastApart L q h [.ref (q 0), .int p0] (some (.int r)) h := by
  refine XM_intro [(0, .ref (q 0)), (1, .int p0)] "SignalBlind" (by decide) rfl rfl (Nat.le_of_ble_eq_true rfl) (fun κ X R => ?_)
  unfold f_X11_leastApart at hf
  refine x_bipush X (v := 11) dX11_leastApart_0 (by decide) ?_
  refine x_istore_n X [(2, .int (11 : Int32)), (0, .ref (q 0)), (1, .int p0)] dX11_leastApart_2 rfl (Nat.le_of_ble_eq_true rfl) rfl ?_
  refine x_iconst X (v := 0) dX11_leastApart_3 (by decide) ?_
  refine x_istore_n X [(3, .int (0 : Int32)), (2, .int (11 : Int32)), (0, .ref (q 0)), (1, .int p0)] dX11_leastApart_4 rfl (Nat.le_of_ble_eq_true rfl) rfl ?_
  refine x_lv [2, 3, 1, 0] rfl ?_
  exact k_X11_leastApart_5 hω X R _ _ _ _ hf
theorem mt_X11_leastApart : MT yX11_leastApart cX11_leastApart 4 (some .int) "SignalBlind" 1 := ⟨(mT_3 160 rfl rfl), (mTp (q := (yX11_leastApart, 12)) (by decide +kernel) rfl), (mT_1 1 rfl rfl), (mT_3 161 rfl rfl), by decide⟩
theorem c_X11_288 {ω : XO} {rm : Room} {nL : Nat} {κ : XK} {cc : ByteArray} (X : XC ω rm nL κ cc "SignalBlind") (hω : ω.2.2.2.1 = 1) {L : List Nat} {q : Nat → Nat} {h : hp} {cells slots pc : Nat} {lv : List (Nat × Value)} {rest : List Value} {p0 : Int32} {r : Int32} (hf : f_X11_leastApart h p0 = some r) (hR : rm_X11_leastApart.frames + 1 ≤ rm.frames ∧ 8 + (4 + 11) + rm_X11_leastApart.locals ≤ rm.locals) (hcs : cells ≤ rm.cells ∧ slots ≤ rm.slots) (hroom : (rest.map fun v => v.category).sum ≤ 8) (hd : decode cc pc = .ok (.invokevirtual 288, 3)) (kk : XG ω rm nL κ L q h cells slots (pc + 3) lv (.int r :: rest)) : XG ω rm nL κ L q h cells slots pc lv (.int p0 :: .ref (q 0) :: rest) := x_callV X [.int p0] rest (k_X11_leastApart hω hf) mt_X11_leastApart (mT_3 158 rfl rfl) hR ⟨rfl, rfl⟩ hcs (sdX_0 hω) (ks_0 _) (by decide) rfl rfl hroom hd kk

abbrev rm_X11_newSign : Room := { frames := 3, cells := 0, slots := 0, locals := 64 }
def f_X11_newSign_23 (h : hp) (a3 : Int32) : Option Int32 := (some a3)
def f_X11_newSign_59 (h : hp) (k31 : Int32 → Int32 → Int32 → Int32 → Option Int32) (a12 : Int32) (a13 : Int32) (a14 : Int32) (a15 : Int32) : Option Int32 := (nm (a15 + (1 : Int32)) fun v16 =>
 (k31 a12 a13 a14 v16))
def f_X11_newSign_74 (h : hp) (a18 : Int32) : Option Int32 := (some a18)
def f_X11_newSign_31 (h : hp) : Nat → Int32 → Int32 → Int32 → Int32 → Option Int32
  | 0, _, _, _, _ => none
  | n + 1, a4, a5, a6, a7 => (if a7 < (1024 : Int32) then
 (bnr (f_X11_leastApart h a7) fun r9 =>
 (if a5 < r9 then
 (f_X11_newSign_59 h (f_X11_newSign_31 h n) a4 r9 a7 a7)
 else
 (f_X11_newSign_59 h (f_X11_newSign_31 h n) a4 a5 a6 a7)))
 else
 (if a4 = 0 then
 (f_X11_newSign_74 h a6)
 else
 (f_X11_newSign_74 h a5)))
def f_X11_newSign (h : hp) (p0 : Int32) : Option Int32 := (if (hI h 2 1) = 0 then
 (if p0 = 0 then
 (f_X11_newSign_23 h (0 : Int32))
 else
 (f_X11_newSign_23 h (-5 : Int32)))
 else
 (f_X11_newSign_31 h 2000 p0 (-1 : Int32) (0 : Int32) (0 : Int32)))
set_option maxRecDepth 100000 in
set_option maxHeartbeats 4000000 in
theorem k_X11_newSign_23 {ω : XO} (hω : ω.2.2.2.1 = 1) {κ : XK} (X : XC ω rm_X11_newSign 6 κ cX11_newSign "SignalBlind") {L : List Nat} {q : Nat → Nat} {h : hp} {r : Int32} (R : XRet ω rm_X11_newSign κ (some .int) L q h (some (.int r))) : ∀ (a3 : Int32), f_X11_newSign_23 h a3 = some r → XG ω rm_X11_newSign 6 κ L q h 0 0 23 [] [.int a3] := by
  intro a3 hf
  unfold f_X11_newSign_23 at hf
  exact x_retRI X R hf dX11_newSign_23
set_option maxRecDepth 100000 in
set_option maxHeartbeats 4000000 in
theorem k_X11_newSign_59 {ω : XO} (hω : ω.2.2.2.1 = 1) {κ : XK} (X : XC ω rm_X11_newSign 6 κ cX11_newSign "SignalBlind") {L : List Nat} {q : Nat → Nat} {h : hp} {r : Int32} (R : XRet ω rm_X11_newSign κ (some .int) L q h (some (.int r))) (k31 : Int32 → Int32 → Int32 → Int32 → Option Int32) (hk31 : ∀ (a4 : Int32) (a5 : Int32) (a6 : Int32) (a7 : Int32), k31 a4 a5 a6 a7 = some r → XG ω rm_X11_newSign 6 κ L q h 0 0 31 [(0, .ref (q 0)), (1, .int a4), (2, .int a5), (3, .int a6), (4, .int a7)] []) : ∀ (a12 : Int32) (a13 : Int32) (a14 : Int32) (a15 : Int32), f_X11_newSign_59 h k31 a12 a13 a14 a15 = some r → XG ω rm_X11_newSign 6 κ L q h 0 0 59 [(0, .ref (q 0)), (1, .int a12), (2, .int a13), (3, .int a14), (4, .int a15)] [] := by
  intro a12 a13 a14 a15 hf
  unfold f_X11_newSign_59 at hf
  obtain ⟨v16, ev16, hf⟩ := nm_some hf
  refine x_iincN X (v := 1) ev16 [(4, .int v16), (0, .ref (q 0)), (1, .int a12), (2, .int a13), (3, .int a14)] dX11_newSign_59 4 rfl (by decide) (Nat.le_of_ble_eq_true rfl) rfl ?_
  refine x_goto X 31 dX11_newSign_62 (by decide) ?_
  refine x_lv [1, 2, 3, 4, 0] rfl ?_
  exact hk31 _ _ _ _ hf
set_option maxRecDepth 100000 in
set_option maxHeartbeats 4000000 in
theorem k_X11_newSign_74 {ω : XO} (hω : ω.2.2.2.1 = 1) {κ : XK} (X : XC ω rm_X11_newSign 6 κ cX11_newSign "SignalBlind") {L : List Nat} {q : Nat → Nat} {h : hp} {r : Int32} (R : XRet ω rm_X11_newSign κ (some .int) L q h (some (.int r))) : ∀ (a18 : Int32), f_X11_newSign_74 h a18 = some r → XG ω rm_X11_newSign 6 κ L q h 0 0 74 [] [.int a18] := by
  intro a18 hf
  unfold f_X11_newSign_74 at hf
  exact x_retRI X R hf dX11_newSign_74
set_option maxRecDepth 100000 in
set_option maxHeartbeats 4000000 in
theorem k_X11_newSign_31 {ω : XO} (hω : ω.2.2.2.1 = 1) {κ : XK} (X : XC ω rm_X11_newSign 6 κ cX11_newSign "SignalBlind") {L : List Nat} {q : Nat → Nat} {h : hp} {r : Int32} (R : XRet ω rm_X11_newSign κ (some .int) L q h (some (.int r))) : ∀ (n : Nat) (a4 : Int32) (a5 : Int32) (a6 : Int32) (a7 : Int32), f_X11_newSign_31 h n a4 a5 a6 a7 = some r → XG ω rm_X11_newSign 6 κ L q h 0 0 31 [(0, .ref (q 0)), (1, .int a4), (2, .int a5), (3, .int a6), (4, .int a7)] [] := by
  intro n
  induction n with
  | zero =>
    intro a4 a5 a6 a7 hf
    have hf : (none : Option Int32) = some r := hf
    cases hf
  | succ n ih =>
    intro a4 a5 a6 a7 hf
    rw [f_X11_newSign_31] at hf
    refine x_iload X dX11_newSign_31 4 rfl ?_
    refine x_sipush X (v := 1024) dX11_newSign_33 (by decide) ?_
    refine x_icmp_ge X 65 dX11_newSign_36 (by decide) (fun c8 => ?_) (fun c8 => ?_)
    · replace hf := (if_pos c8).symm.trans hf
      refine x_aload_n X dX11_newSign_39 0 rfl rfl ?_
      refine x_iload X dX11_newSign_40 4 rfl ?_
      obtain ⟨r9, g10, hf⟩ := bnr_some hf
      refine c_X11_288 X hω g10 (hR := ⟨Nat.le_of_ble_eq_true rfl, Nat.le_of_ble_eq_true rfl⟩) ⟨Nat.zero_le _, Nat.zero_le _⟩ (Nat.le_of_ble_eq_true rfl) dX11_newSign_42 ?_
      refine x_istore X [(5, .int r9), (0, .ref (q 0)), (1, .int a4), (2, .int a5), (3, .int a6), (4, .int a7)] dX11_newSign_45 (Nat.le_of_ble_eq_true rfl) rfl ?_
      refine x_iload X dX11_newSign_47 0 rfl ?_
      refine x_iload_n X dX11_newSign_49 3 rfl rfl ?_
      refine x_icmp_le X 59 dX11_newSign_50 (by decide) (fun c11 => ?_) (fun c11 => ?_)
      · replace hf := (if_pos c11).symm.trans hf
        refine x_iload X dX11_newSign_53 0 rfl ?_
        refine x_istore_n X [(2, .int r9), (5, .int r9), (0, .ref (q 0)), (1, .int a4), (3, .int a6), (4, .int a7)] dX11_newSign_55 rfl (Nat.le_of_ble_eq_true rfl) rfl ?_
        refine x_iload X dX11_newSign_56 5 rfl ?_
        refine x_istore_n X [(3, .int a7), (2, .int r9), (5, .int r9), (0, .ref (q 0)), (1, .int a4), (4, .int a7)] dX11_newSign_58 rfl (Nat.le_of_ble_eq_true rfl) rfl ?_
        refine x_lv [3, 4, 1, 0, 5] rfl ?_
        exact k_X11_newSign_59 hω X R _ ih _ _ _ _ hf
      · replace hf := (if_neg c11).symm.trans hf
        refine x_lv [1, 2, 3, 4, 5] rfl ?_
        exact k_X11_newSign_59 hω X R _ ih _ _ _ _ hf
    · replace hf := (if_neg c8).symm.trans hf
      refine x_iload_n X dX11_newSign_65 1 rfl rfl ?_
      refine x_if_eq X 73 dX11_newSign_66 (by decide) (fun c17 => ?_) (fun c17 => ?_)
      · replace hf := (if_pos c17).symm.trans hf
        refine x_iload_n X dX11_newSign_73 3 rfl rfl ?_
        refine x_lv [] rfl ?_
        exact k_X11_newSign_74 hω X R _ hf
      · replace hf := (if_neg c17).symm.trans hf
        refine x_iload_n X dX11_newSign_69 2 rfl rfl ?_
        refine x_goto X 74 dX11_newSign_70 (by decide) ?_
        refine x_lv [] rfl ?_
        exact k_X11_newSign_74 hω X R _ hf
set_option maxRecDepth 100000 in
set_option maxHeartbeats 4000000 in
theorem k_X11_newSign {ω : XO} (hω : ω.2.2.2.1 = 1) {L : List Nat} {q : Nat → Nat} {h : hp} {p0 : Int32} {r : Int32} (hf : f_X11_newSign h p0 = some r) : XM ω yX11_newSign cX11_newSign 6 (some .int) rm_X11_newSign L q h [.ref (q 0), .int p0] (some (.int r)) h := by
  refine XM_intro [(0, .ref (q 0)), (1, .int p0)] "SignalBlind" (by decide) rfl rfl (Nat.le_of_ble_eq_true rfl) (fun κ X R => ?_)
  unfold f_X11_newSign at hf
  refine x_aload_n X dX11_newSign_0 0 rfl rfl ?_
  refine x_getsj X (i := 0) 1 fl_X11_14_12 (sdX_0 hω) (ks_0 _) rfl (j := 1) rfl dX11_newSign_1 ?_
  refine x_getsj X (i := 1) 1 fl_X11_77_4 (sdX_1 hω) (ks_1 _) rfl (j := 2) rfl dX11_newSign_4 ?_
  refine x_geti X (i := 2) fl_X11_179_3 (sdX_2 hω) (ks_2 _) rfl dX11_newSign_7 ?_
  refine x_if_ne X 24 dX11_newSign_10 (by decide) (fun c1 => ?_) (fun c1 => ?_)
  · replace hf := (if_pos c1).symm.trans hf
    refine x_iload_n X dX11_newSign_13 1 rfl rfl ?_
    refine x_if_eq X 22 dX11_newSign_14 (by decide) (fun c2 => ?_) (fun c2 => ?_)
    · replace hf := (if_pos c2).symm.trans hf
      refine x_iconst X (v := 0) dX11_newSign_22 (by decide) ?_
      refine x_lv [] rfl ?_
      exact k_X11_newSign_23 hω X R _ hf
    · replace hf := (if_neg c2).symm.trans hf
      refine x_bipush X (v := -5) dX11_newSign_17 (by decide) ?_
      refine x_goto X 23 dX11_newSign_19 (by decide) ?_
      refine x_lv [] rfl ?_
      exact k_X11_newSign_23 hω X R _ hf
  · replace hf := (if_neg c1).symm.trans hf
    refine x_iconst X (v := -1) dX11_newSign_24 (by decide) ?_
    refine x_istore_n X [(2, .int (-1 : Int32)), (0, .ref (q 0)), (1, .int p0)] dX11_newSign_25 rfl (Nat.le_of_ble_eq_true rfl) rfl ?_
    refine x_iconst X (v := 0) dX11_newSign_26 (by decide) ?_
    refine x_istore_n X [(3, .int (0 : Int32)), (2, .int (-1 : Int32)), (0, .ref (q 0)), (1, .int p0)] dX11_newSign_27 rfl (Nat.le_of_ble_eq_true rfl) rfl ?_
    refine x_iconst X (v := 0) dX11_newSign_28 (by decide) ?_
    refine x_istore X [(4, .int (0 : Int32)), (3, .int (0 : Int32)), (2, .int (-1 : Int32)), (0, .ref (q 0)), (1, .int p0)] dX11_newSign_29 (Nat.le_of_ble_eq_true rfl) rfl ?_
    refine x_lv [3, 4, 2, 1, 0] rfl ?_
    exact k_X11_newSign_31 hω X R _ _ _ _ _ hf
theorem mt_X11_newSign : MT yX11_newSign cX11_newSign 6 (some .int) "SignalBlind" 1 := ⟨(mT_3 156 rfl rfl), (mTp (q := (yX11_newSign, 12)) (by decide +kernel) rfl), (mT_1 1 rfl rfl), (mT_3 157 rfl rfl), by decide⟩
theorem c_X11_169 {ω : XO} {rm : Room} {nL : Nat} {κ : XK} {cc : ByteArray} (X : XC ω rm nL κ cc "SignalBlind") (hω : ω.2.2.2.1 = 1) {L : List Nat} {q : Nat → Nat} {h : hp} {cells slots pc : Nat} {lv : List (Nat × Value)} {rest : List Value} {p0 : Int32} {r : Int32} (hf : f_X11_newSign h p0 = some r) (hR : rm_X11_newSign.frames + 1 ≤ rm.frames ∧ 8 + (6 + 11) + rm_X11_newSign.locals ≤ rm.locals) (hcs : cells ≤ rm.cells ∧ slots ≤ rm.slots) (hroom : (rest.map fun v => v.category).sum ≤ 8) (hd : decode cc pc = .ok (.invokevirtual 169, 3)) (kk : XG ω rm nL κ L q h cells slots (pc + 3) lv (.int r :: rest)) : XG ω rm nL κ L q h cells slots pc lv (.int p0 :: .ref (q 0) :: rest) := x_callV X [.int p0] rest (k_X11_newSign hω hf) mt_X11_newSign (mT_3 154 rfl rfl) hR ⟨rfl, rfl⟩ hcs (sdX_0 hω) (ks_0 _) (by decide) rfl rfl hroom hd kk

abbrev rm_X11_told : Room := { frames := 4, cells := 0, slots := 0, locals := 89 }
def f_X11_told_64 (h : hp) (a7 : Int32) : Option Int32 := (bnr (f_X11_closestWords h a7) fun r8 =>
 (some r8))
def f_X11_told_79 (h : hp) (a14 : Int32) : Option Int32 := (bnr (f_X11_newSign h a14) fun r15 =>
 (some r15))
def f_X11_told_118 (h : hp) (a20 : Int32) : Option Int32 := (some a20)
def f_X11_told_117 (h : hp) : Option Int32 := (f_X11_told_118 h (-1 : Int32))
def f_X11_told (h : hp) (p0 : Int32) : Option Int32 := (if p0 = (0 : Int32) then
 (some (hI h 1 5))
 else
 (if p0 = (1 : Int32) then
 (bnr (f_X11_near h) fun r3 =>
 (some r3))
 else
 (if p0 = (2 : Int32) then
 (if p0 = (3 : Int32) then
 (f_X11_told_64 h (1 : Int32))
 else
 (f_X11_told_64 h (0 : Int32)))
 else
 (if p0 = (3 : Int32) then
 (if p0 = (3 : Int32) then
 (f_X11_told_64 h (1 : Int32))
 else
 (f_X11_told_64 h (0 : Int32)))
 else
 (if p0 = (4 : Int32) then
 (if p0 = (5 : Int32) then
 (f_X11_told_79 h (1 : Int32))
 else
 (f_X11_told_79 h (0 : Int32)))
 else
 (if p0 = (5 : Int32) then
 (if p0 = (5 : Int32) then
 (f_X11_told_79 h (1 : Int32))
 else
 (f_X11_told_79 h (0 : Int32)))
 else
 (if p0 < (10 : Int32) then
 (f_X11_told_117 h)
 else
 (bnr (f_X11_isWord h (p0 - (10 : Int32))) fun r21 =>
 (if r21 = 0 then
 (f_X11_told_117 h)
 else
 (bnr (f_X2_get h 2 (p0 - (10 : Int32))) fun r24 =>
 (f_X11_told_118 h r24)))))))))))
set_option maxRecDepth 100000 in
set_option maxHeartbeats 4000000 in
theorem k_X11_told_64 {ω : XO} (hω : ω.2.2.2.1 = 1) {κ : XK} (X : XC ω rm_X11_told 2 κ cX11_told "SignalBlind") {L : List Nat} {q : Nat → Nat} {h : hp} {r : Int32} (R : XRet ω rm_X11_told κ (some .int) L q h (some (.int r))) : ∀ (a7 : Int32), f_X11_told_64 h a7 = some r → XG ω rm_X11_told 2 κ L q h 0 0 64 [] [.int a7, .ref (q 0)] := by
  intro a7 hf
  unfold f_X11_told_64 at hf
  obtain ⟨r8, g9, hf⟩ := bnr_some hf
  refine c_X11_165 X hω g9 (hR := ⟨Nat.le_of_ble_eq_true rfl, Nat.le_of_ble_eq_true rfl⟩) ⟨Nat.zero_le _, Nat.zero_le _⟩ (Nat.le_of_ble_eq_true rfl) dX11_told_64 ?_
  exact x_retRI X R hf dX11_told_67
set_option maxRecDepth 100000 in
set_option maxHeartbeats 4000000 in
theorem k_X11_told_79 {ω : XO} (hω : ω.2.2.2.1 = 1) {κ : XK} (X : XC ω rm_X11_told 2 κ cX11_told "SignalBlind") {L : List Nat} {q : Nat → Nat} {h : hp} {r : Int32} (R : XRet ω rm_X11_told κ (some .int) L q h (some (.int r))) : ∀ (a14 : Int32), f_X11_told_79 h a14 = some r → XG ω rm_X11_told 2 κ L q h 0 0 79 [] [.int a14, .ref (q 0)] := by
  intro a14 hf
  unfold f_X11_told_79 at hf
  obtain ⟨r15, g16, hf⟩ := bnr_some hf
  refine c_X11_169 X hω g16 (hR := ⟨Nat.le_of_ble_eq_true rfl, Nat.le_of_ble_eq_true rfl⟩) ⟨Nat.zero_le _, Nat.zero_le _⟩ (Nat.le_of_ble_eq_true rfl) dX11_told_79 ?_
  exact x_retRI X R hf dX11_told_82
set_option maxRecDepth 100000 in
set_option maxHeartbeats 4000000 in
theorem k_X11_told_118 {ω : XO} (hω : ω.2.2.2.1 = 1) {κ : XK} (X : XC ω rm_X11_told 2 κ cX11_told "SignalBlind") {L : List Nat} {q : Nat → Nat} {h : hp} {r : Int32} (R : XRet ω rm_X11_told κ (some .int) L q h (some (.int r))) : ∀ (a20 : Int32), f_X11_told_118 h a20 = some r → XG ω rm_X11_told 2 κ L q h 0 0 118 [] [.int a20] := by
  intro a20 hf
  unfold f_X11_told_118 at hf
  exact x_retRI X R hf dX11_told_118
set_option maxRecDepth 100000 in
set_option maxHeartbeats 4000000 in
theorem k_X11_told_117 {ω : XO} (hω : ω.2.2.2.1 = 1) {κ : XK} (X : XC ω rm_X11_told 2 κ cX11_told "SignalBlind") {L : List Nat} {q : Nat → Nat} {h : hp} {r : Int32} (R : XRet ω rm_X11_told κ (some .int) L q h (some (.int r))) : f_X11_told_117 h = some r → XG ω rm_X11_told 2 κ L q h 0 0 117 [] [] := by
  intro  hf
  unfold f_X11_told_117 at hf
  refine x_iconst X (v := -1) dX11_told_117 (by decide) ?_
  refine x_lv [] rfl ?_
  exact k_X11_told_118 hω X R _ hf
set_option maxRecDepth 100000 in
set_option maxHeartbeats 4000000 in
theorem k_X11_told {ω : XO} (hω : ω.2.2.2.1 = 1) {L : List Nat} {q : Nat → Nat} {h : hp} {p0 : Int32} {r : Int32} (hf : f_X11_told h p0 = some r) : XM ω yX11_told cX11_told 2 (some .int) rm_X11_told L q h [.ref (q 0), .int p0] (some (.int r)) h := by
  refine XM_intro [(0, .ref (q 0)), (1, .int p0)] "SignalBlind" (by decide) rfl rfl (Nat.le_of_ble_eq_true rfl) (fun κ X R => ?_)
  unfold f_X11_told at hf
  refine x_iload_n X dX11_told_0 1 rfl rfl ?_
  by_cases s1 : p0 = (0 : Int32)
  · replace hf := (if_pos s1).symm.trans hf
    refine x_tswI X (off := 39) 40 dX11_told_1 s1 (by decide) (by decide) (by decide) (by decide) ?_
    refine x_aload_n X dX11_told_40 0 rfl rfl ?_
    refine x_getsj X (i := 0) 1 fl_X11_14_12 (sdX_0 hω) (ks_0 _) rfl (j := 1) rfl dX11_told_41 ?_
    refine x_geti X (i := 1) fl_X11_158_4 (sdX_1 hω) (ks_1 _) rfl dX11_told_44 ?_
    exact x_retRI X R hf dX11_told_47
  · replace hf := (if_neg s1).symm.trans hf
    by_cases s2 : p0 = (1 : Int32)
    · replace hf := (if_pos s2).symm.trans hf
      refine x_tswI X (off := 47) 48 dX11_told_1 s2 (by decide) (by decide) (by decide) (by decide) ?_
      refine x_aload_n X dX11_told_48 0 rfl rfl ?_
      obtain ⟨r3, g4, hf⟩ := bnr_some hf
      refine c_X11_161 X hω g4 (hR := ⟨Nat.le_of_ble_eq_true rfl, Nat.le_of_ble_eq_true rfl⟩) ⟨Nat.zero_le _, Nat.zero_le _⟩ (Nat.le_of_ble_eq_true rfl) dX11_told_49 ?_
      exact x_retRI X R hf dX11_told_52
    · replace hf := (if_neg s2).symm.trans hf
      by_cases s5 : p0 = (2 : Int32)
      · replace hf := (if_pos s5).symm.trans hf
        refine x_tswI X (off := 52) 53 dX11_told_1 s5 (by decide) (by decide) (by decide) (by decide) ?_
        refine x_aload_n X dX11_told_53 0 rfl rfl ?_
        refine x_iload_n X dX11_told_54 1 rfl rfl ?_
        refine x_iconst X (v := 3) dX11_told_55 (by decide) ?_
        refine x_icmp_ne X 63 dX11_told_56 (by decide) (fun c6 => ?_) (fun c6 => ?_)
        · replace hf := (if_pos c6).symm.trans hf
          refine x_iconst X (v := 1) dX11_told_59 (by decide) ?_
          refine x_goto X 64 dX11_told_60 (by decide) ?_
          refine x_lv [] rfl ?_
          exact k_X11_told_64 hω X R _ hf
        · replace hf := (if_neg c6).symm.trans hf
          refine x_iconst X (v := 0) dX11_told_63 (by decide) ?_
          refine x_lv [] rfl ?_
          exact k_X11_told_64 hω X R _ hf
      · replace hf := (if_neg s5).symm.trans hf
        by_cases s10 : p0 = (3 : Int32)
        · replace hf := (if_pos s10).symm.trans hf
          refine x_tswI X (off := 52) 53 dX11_told_1 s10 (by decide) (by decide) (by decide) (by decide) ?_
          refine x_aload_n X dX11_told_53 0 rfl rfl ?_
          refine x_iload_n X dX11_told_54 1 rfl rfl ?_
          refine x_iconst X (v := 3) dX11_told_55 (by decide) ?_
          refine x_icmp_ne X 63 dX11_told_56 (by decide) (fun c11 => ?_) (fun c11 => ?_)
          · replace hf := (if_pos c11).symm.trans hf
            refine x_iconst X (v := 1) dX11_told_59 (by decide) ?_
            refine x_goto X 64 dX11_told_60 (by decide) ?_
            refine x_lv [] rfl ?_
            exact k_X11_told_64 hω X R _ hf
          · replace hf := (if_neg c11).symm.trans hf
            refine x_iconst X (v := 0) dX11_told_63 (by decide) ?_
            refine x_lv [] rfl ?_
            exact k_X11_told_64 hω X R _ hf
        · replace hf := (if_neg s10).symm.trans hf
          by_cases s12 : p0 = (4 : Int32)
          · replace hf := (if_pos s12).symm.trans hf
            refine x_tswI X (off := 67) 68 dX11_told_1 s12 (by decide) (by decide) (by decide) (by decide) ?_
            refine x_aload_n X dX11_told_68 0 rfl rfl ?_
            refine x_iload_n X dX11_told_69 1 rfl rfl ?_
            refine x_iconst X (v := 5) dX11_told_70 (by decide) ?_
            refine x_icmp_ne X 78 dX11_told_71 (by decide) (fun c13 => ?_) (fun c13 => ?_)
            · replace hf := (if_pos c13).symm.trans hf
              refine x_iconst X (v := 1) dX11_told_74 (by decide) ?_
              refine x_goto X 79 dX11_told_75 (by decide) ?_
              refine x_lv [] rfl ?_
              exact k_X11_told_79 hω X R _ hf
            · replace hf := (if_neg c13).symm.trans hf
              refine x_iconst X (v := 0) dX11_told_78 (by decide) ?_
              refine x_lv [] rfl ?_
              exact k_X11_told_79 hω X R _ hf
          · replace hf := (if_neg s12).symm.trans hf
            by_cases s17 : p0 = (5 : Int32)
            · replace hf := (if_pos s17).symm.trans hf
              refine x_tswI X (off := 67) 68 dX11_told_1 s17 (by decide) (by decide) (by decide) (by decide) ?_
              refine x_aload_n X dX11_told_68 0 rfl rfl ?_
              refine x_iload_n X dX11_told_69 1 rfl rfl ?_
              refine x_iconst X (v := 5) dX11_told_70 (by decide) ?_
              refine x_icmp_ne X 78 dX11_told_71 (by decide) (fun c18 => ?_) (fun c18 => ?_)
              · replace hf := (if_pos c18).symm.trans hf
                refine x_iconst X (v := 1) dX11_told_74 (by decide) ?_
                refine x_goto X 79 dX11_told_75 (by decide) ?_
                refine x_lv [] rfl ?_
                exact k_X11_told_79 hω X R _ hf
              · replace hf := (if_neg c18).symm.trans hf
                refine x_iconst X (v := 0) dX11_told_78 (by decide) ?_
                refine x_lv [] rfl ?_
                exact k_X11_told_79 hω X R _ hf
            · replace hf := (if_neg s17).symm.trans hf
              refine x_tswO X 83 dX11_told_1 (by have := lv_neT s1 (a := 0) (by decide); have := lv_neT s2 (a := 1) (by decide); have := lv_neT s5 (a := 2) (by decide); have := lv_neT s10 (a := 3) (by decide); have := lv_neT s12 (a := 4) (by decide); have := lv_neT s17 (a := 5) (by decide); omega) (by decide) ?_
              refine x_iload_n X dX11_told_83 1 rfl rfl ?_
              refine x_bipush X (v := 10) dX11_told_84 (by decide) ?_
              refine x_icmp_lt X 117 dX11_told_86 (by decide) (fun c19 => ?_) (fun c19 => ?_)
              · replace hf := (if_pos c19).symm.trans hf
                refine x_lv [] rfl ?_
                exact k_X11_told_117 hω X R  hf
              · replace hf := (if_neg c19).symm.trans hf
                refine x_aload_n X dX11_told_89 0 rfl rfl ?_
                refine x_iload_n X dX11_told_90 1 rfl rfl ?_
                refine x_bipush X (v := 10) dX11_told_91 (by decide) ?_
                refine x_isub X dX11_told_93 ?_
                obtain ⟨r21, g22, hf⟩ := bnr_some hf
                refine c_X11_88 X hω g22 (hR := ⟨Nat.le_of_ble_eq_true rfl, Nat.le_of_ble_eq_true rfl⟩) ⟨Nat.zero_le _, Nat.zero_le _⟩ (Nat.le_of_ble_eq_true rfl) dX11_told_94 ?_
                refine x_if_eq X 117 dX11_told_97 (by decide) (fun c23 => ?_) (fun c23 => ?_)
                · replace hf := (if_pos c23).symm.trans hf
                  refine x_lv [] rfl ?_
                  exact k_X11_told_117 hω X R  hf
                · replace hf := (if_neg c23).symm.trans hf
                  refine x_aload_n X dX11_told_100 0 rfl rfl ?_
                  refine x_getsj X (i := 0) 1 fl_X11_14_12 (sdX_0 hω) (ks_0 _) rfl (j := 1) rfl dX11_told_101 ?_
                  refine x_getsj X (i := 1) 1 fl_X11_77_4 (sdX_1 hω) (ks_1 _) rfl (j := 2) rfl dX11_told_104 ?_
                  refine x_iload_n X dX11_told_107 1 rfl rfl ?_
                  refine x_bipush X (v := 10) dX11_told_108 (by decide) ?_
                  refine x_isub X dX11_told_110 ?_
                  obtain ⟨r24, g25, hf⟩ := bnr_some hf
                  refine c_X11_91 X hω g25 (sdX_2 hω) (ks_2 _) (hR := ⟨Nat.le_of_ble_eq_true rfl, Nat.le_of_ble_eq_true rfl⟩) ⟨Nat.zero_le _, Nat.zero_le _⟩ (Nat.le_of_ble_eq_true rfl) dX11_told_111 ?_
                  refine x_goto X 118 dX11_told_114 (by decide) ?_
                  refine x_lv [] rfl ?_
                  exact k_X11_told_118 hω X R _ hf
theorem mt_X11_told : MT yX11_told cX11_told 2 (some .int) "SignalBlind" 1 := ⟨(mT_3 147 rfl rfl), (mT_3 148 rfl rfl), (mT_1 1 rfl rfl), (mT_3 149 rfl rfl), by decide⟩

abbrev rm_X11_pass : Room := { frames := 0, cells := 0, slots := 0, locals := 0 }
def f_X11_pass_10 (h : hp) : Option (hp × Int32) := (some (h, (-2 : Int32)))
def f_X11_pass (h : hp) (p0 : Int32) : Option (hp × Int32) := (if p0 < 0 then
 (f_X11_pass_10 h)
 else
 (if (60 : Int32) < p0 then
 (f_X11_pass_10 h)
 else
 (if (9999 : Int32) < ((hI h 1 5) + p0) then
 (some (h, (-3 : Int32)))
 else
 (nm (sI h 1 5 ((hI h 1 5) + p0)) fun h4 =>
 (some (h4, (hI h4 1 5)))))))
set_option maxRecDepth 100000 in
set_option maxHeartbeats 4000000 in
theorem k_X11_pass_10 {ω : XO} (hω : ω.2.2.2.1 = 1) {κ : XK} (X : XC ω rm_X11_pass 2 κ cX11_pass "SignalBlind") {L : List Nat} {q : Nat → Nat} {h' : hp} {r : Int32} (R : XRet ω rm_X11_pass κ (some .int) L q h' (some (.int r))) : ∀ (h : hp), f_X11_pass_10 h = some (h', r) → XG ω rm_X11_pass 2 κ L q h 0 0 10 [] [] := by
  intro h hf
  unfold f_X11_pass_10 at hf
  refine x_bipush X (v := -2) dX11_pass_10 (by decide) ?_
  exact x_retSI X R hf dX11_pass_12
set_option maxRecDepth 100000 in
set_option maxHeartbeats 4000000 in
theorem k_X11_pass {ω : XO} (hω : ω.2.2.2.1 = 1) {L : List Nat} {q : Nat → Nat} {h h' : hp} {p0 : Int32} {r : Int32} (hf : f_X11_pass h p0 = some (h', r)) : XM ω yX11_pass cX11_pass 2 (some .int) rm_X11_pass L q h [.ref (q 0), .int p0] (some (.int r)) h' := by
  refine XM_intro [(0, .ref (q 0)), (1, .int p0)] "SignalBlind" (by decide) rfl rfl (Nat.le_of_ble_eq_true rfl) (fun κ X R => ?_)
  unfold f_X11_pass at hf
  refine x_iload_n X dX11_pass_0 1 rfl rfl ?_
  refine x_if_lt X 10 dX11_pass_1 (by decide) (fun c1 => ?_) (fun c1 => ?_)
  · replace hf := (if_pos c1).symm.trans hf
    refine x_lv [] rfl ?_
    exact k_X11_pass_10 hω X R h hf
  · replace hf := (if_neg c1).symm.trans hf
    refine x_iload_n X dX11_pass_4 1 rfl rfl ?_
    refine x_bipush X (v := 60) dX11_pass_5 (by decide) ?_
    refine x_icmp_le X 13 dX11_pass_7 (by decide) (fun c2 => ?_) (fun c2 => ?_)
    · replace hf := (if_pos c2).symm.trans hf
      refine x_lv [] rfl ?_
      exact k_X11_pass_10 hω X R h hf
    · replace hf := (if_neg c2).symm.trans hf
      refine x_aload_n X dX11_pass_13 0 rfl rfl ?_
      refine x_getsj X (i := 0) 1 fl_X11_14_12 (sdX_0 hω) (ks_0 _) rfl (j := 1) rfl dX11_pass_14 ?_
      refine x_geti X (i := 1) fl_X11_158_4 (sdX_1 hω) (ks_1 _) rfl dX11_pass_17 ?_
      refine x_iload_n X dX11_pass_20 1 rfl rfl ?_
      refine x_iadd X dX11_pass_21 ?_
      refine x_sipush X (v := 9999) dX11_pass_22 (by decide) ?_
      refine x_icmp_le X 31 dX11_pass_25 (by decide) (fun c3 => ?_) (fun c3 => ?_)
      · replace hf := (if_pos c3).symm.trans hf
        refine x_bipush X (v := -3) dX11_pass_28 (by decide) ?_
        exact x_retSI X R hf dX11_pass_30
      · replace hf := (if_neg c3).symm.trans hf
        refine x_aload_n X dX11_pass_31 0 rfl rfl ?_
        refine x_getsj X (i := 0) 1 fl_X11_14_12 (sdX_0 hω) (ks_0 _) rfl (j := 1) rfl dX11_pass_32 ?_
        refine x_dup X dX11_pass_35 rfl ?_
        refine x_geti X (i := 1) fl_X11_158_4 (sdX_1 hω) (ks_1 _) rfl dX11_pass_36 ?_
        refine x_iload_n X dX11_pass_39 1 rfl rfl ?_
        refine x_iadd X dX11_pass_40 ?_
        refine x_puti X (i := 1) fl_X11_158_4 fw_4 (sdX_1 hω) (ks_1 _) rfl rfl rfl rfl dX11_pass_41 ?_
        obtain ⟨h4, eh4, hf⟩ := nm_some hf
        refine x_nmh eh4 ?_
        refine x_aload_n X dX11_pass_44 0 rfl rfl ?_
        refine x_getsj X (i := 0) 1 fl_X11_14_12 (sdX_0 hω) (ks_0 _) rfl (j := 1) rfl dX11_pass_45 ?_
        refine x_geti X (i := 1) fl_X11_158_4 (sdX_1 hω) (ks_1 _) rfl dX11_pass_48 ?_
        exact x_retSI X R hf dX11_pass_51
theorem mt_X11_pass : MT yX11_pass cX11_pass 2 (some .int) "SignalBlind" 1 := ⟨(mT_3 164 rfl rfl), (mT_3 165 rfl rfl), (mT_1 1 rfl rfl), (mT_3 166 rfl rfl), by decide⟩

abbrev rm_X11_isPart : Room := { frames := 0, cells := 0, slots := 0, locals := 0 }
def f_X11_isPart_14 (h : hp) (a2 : Int32) : Option Int32 := (ckZ a2
 (some a2))
def f_X11_isPart_9 (h : hp) : Option Int32 := (f_X11_isPart_14 h (1 : Int32))
def f_X11_isPart (h : hp) (p0 : Int32) : Option Int32 := (if p0 = 0 then
 (f_X11_isPart_9 h)
 else
 (if p0 = (1 : Int32) then
 (f_X11_isPart_9 h)
 else
 (f_X11_isPart_14 h (0 : Int32))))
set_option maxRecDepth 100000 in
set_option maxHeartbeats 4000000 in
theorem k_X11_isPart_14 {ω : XO} (hω : ω.2.2.2.1 = 1) {κ : XK} (X : XC ω rm_X11_isPart 1 κ cX11_isPart "SignalBlind") {L : List Nat} {q : Nat → Nat} {h : hp} {r : Int32} (R : XRet ω rm_X11_isPart κ (some .boolean) L q h (some (.int r))) : ∀ (a2 : Int32), f_X11_isPart_14 h a2 = some r → XG ω rm_X11_isPart 1 κ L q h 0 0 14 [] [.int a2] := by
  intro a2 hf
  unfold f_X11_isPart_14 at hf
  obtain ⟨z3, hf⟩ := ckZ_some hf
  exact x_retRZ X R z3 hf dX11_isPart_14
set_option maxRecDepth 100000 in
set_option maxHeartbeats 4000000 in
theorem k_X11_isPart_9 {ω : XO} (hω : ω.2.2.2.1 = 1) {κ : XK} (X : XC ω rm_X11_isPart 1 κ cX11_isPart "SignalBlind") {L : List Nat} {q : Nat → Nat} {h : hp} {r : Int32} (R : XRet ω rm_X11_isPart κ (some .boolean) L q h (some (.int r))) : f_X11_isPart_9 h = some r → XG ω rm_X11_isPart 1 κ L q h 0 0 9 [] [] := by
  intro  hf
  unfold f_X11_isPart_9 at hf
  refine x_iconst X (v := 1) dX11_isPart_9 (by decide) ?_
  refine x_goto X 14 dX11_isPart_10 (by decide) ?_
  refine x_lv [] rfl ?_
  exact k_X11_isPart_14 hω X R _ hf
set_option maxRecDepth 100000 in
set_option maxHeartbeats 4000000 in
theorem k_X11_isPart {ω : XO} (hω : ω.2.2.2.1 = 1) {L : List Nat} {q : Nat → Nat} {h : hp} {p0 : Int32} {r : Int32} (hf : f_X11_isPart h p0 = some r) : XM ω yX11_isPart cX11_isPart 1 (some .boolean) rm_X11_isPart L q h [.int p0] (some (.int r)) h := by
  refine XM_intro [(0, .int p0)] "SignalBlind" (by decide) rfl rfl (Nat.le_of_ble_eq_true rfl) (fun κ X R => ?_)
  unfold f_X11_isPart at hf
  refine x_iload_n X dX11_isPart_0 0 rfl rfl ?_
  refine x_if_eq X 9 dX11_isPart_1 (by decide) (fun c1 => ?_) (fun c1 => ?_)
  · replace hf := (if_pos c1).symm.trans hf
    refine x_lv [] rfl ?_
    exact k_X11_isPart_9 hω X R  hf
  · replace hf := (if_neg c1).symm.trans hf
    refine x_iload_n X dX11_isPart_4 0 rfl rfl ?_
    refine x_iconst X (v := 1) dX11_isPart_5 (by decide) ?_
    refine x_icmp_ne X 13 dX11_isPart_6 (by decide) (fun c4 => ?_) (fun c4 => ?_)
    · replace hf := (if_pos c4).symm.trans hf
      refine x_lv [] rfl ?_
      exact k_X11_isPart_9 hω X R  hf
    · replace hf := (if_neg c4).symm.trans hf
      refine x_iconst X (v := 0) dX11_isPart_13 (by decide) ?_
      refine x_lv [] rfl ?_
      exact k_X11_isPart_14 hω X R _ hf
theorem mt_X11_isPart : MS yX11_isPart cX11_isPart 1 (some .boolean) 1 := ⟨(mT_3 172 rfl rfl), (mT_1 1 rfl rfl), (mT_3 173 rfl rfl), by decide⟩
theorem c_X11_172 {ω : XO} {rm : Room} {nL : Nat} {κ : XK} {cc : ByteArray} (X : XC ω rm nL κ cc "SignalBlind") (hω : ω.2.2.2.1 = 1) {L : List Nat} {q : Nat → Nat} {h : hp} {cells slots pc : Nat} {lv : List (Nat × Value)} {rest : List Value} {p0 : Int32} {r : Int32} (hf : f_X11_isPart h p0 = some r) (hR : rm_X11_isPart.frames + 1 ≤ rm.frames ∧ 8 + (1 + 11) + rm_X11_isPart.locals ≤ rm.locals) (hcs : cells ≤ rm.cells ∧ slots ≤ rm.slots) (hroom : (rest.map fun v => v.category).sum ≤ 8) (hd : decode cc pc = .ok (.invokestatic 172, 3)) (kk : XG ω rm nL κ L q h cells slots (pc + 3) lv (.int r :: rest)) : XG ω rm nL κ L q h cells slots pc lv (.int p0 :: rest) := x_callS X [.int p0] rest (k_X11_isPart hω hf) mt_X11_isPart (mT_3 171 rfl rfl) hR ⟨rfl, rfl⟩ hcs rfl hroom hd kk

abbrev rm_X11_saying : Room := { frames := 5, cells := 0, slots := 0, locals := 124 }
def f_X11_saying_23 (h : hp) : Option (hp × Int32) := (some (h, (-1 : Int32)))
def f_X11_saying_85 (k48 : hp → Int32 → Int32 → Int32 → Int32 → Int32 → Int32 → Option (hp × Int32)) (h : hp) (a31 : Int32) (a32 : Int32) (a33 : Int32) (a34 : Int32) (a35 : Int32) (a36 : Int32) : Option (hp × Int32) := (nm (a36 + (1 : Int32)) fun v37 =>
 (k48 h a31 a32 a33 a34 a35 v37))
def f_X11_saying_80 (k48 : hp → Int32 → Int32 → Int32 → Int32 → Int32 → Int32 → Option (hp × Int32)) (h : hp) (a24 : Int32) (a25 : Int32) (a26 : Int32) (a27 : Int32) (a28 : Int32) (a29 : Int32) : Option (hp × Int32) := (nm (a27 + (1 : Int32)) fun v30 =>
 (f_X11_saying_85 k48 h a24 a25 a26 a29 v30 a28))
def f_X11_saying_102 (h : hp) (a39 : Int32) : Option (hp × Int32) := (some (h, a39))
def f_X11_saying_48 : Nat → hp → Int32 → Int32 → Int32 → Int32 → Int32 → Int32 → Option (hp × Int32)
  | 0, _, _, _, _, _, _, _ => none
  | n + 1, h, a12, a13, a14, a15, a16, a17 => (if a17 < (1024 : Int32) then
 (bnd (f_X11_shownNow h a12 a17) fun h19 r20 =>
 (if r20 = a14 then
 (if a16 = 0 then
 (f_X11_saying_80 (f_X11_saying_48 n) h19 a12 a13 a14 a16 a17 a17)
 else
 (f_X11_saying_80 (f_X11_saying_48 n) h19 a12 a13 a14 a16 a17 a15))
 else
 (f_X11_saying_85 (f_X11_saying_48 n) h19 a12 a13 a14 a15 a16 a17)))
 else
 (if a13 = 0 then
 (f_X11_saying_102 h a15)
 else
 (f_X11_saying_102 h a16)))
def f_X11_saying (h : hp) (p0 : Int32) (p1 : Int32) (p2 : Int32) : Option (hp × Int32) := (bnr (f_X11_isSender h p0) fun r1 =>
 (if r1 = 0 then
 (f_X11_saying_23 h)
 else
 (bnr (f_X11_isWord h p1) fun r4 =>
 (if r4 = 0 then
 (f_X11_saying_23 h)
 else
 (bnr (f_X11_isPart h p2) fun r7 =>
 (if r7 = 0 then
 (f_X11_saying_23 h)
 else
 (bnr (f_X2_get h 2 p1) fun r10 =>
 (f_X11_saying_48 2000 h p0 p2 r10 (-5 : Int32) (0 : Int32) (0 : Int32)))))))))
set_option maxRecDepth 100000 in
set_option maxHeartbeats 4000000 in
theorem k_X11_saying_23 {ω : XO} (hω : ω.2.2.2.1 = 1) {κ : XK} (X : XC ω rm_X11_saying 8 κ cX11_saying "SignalBlind") {L : List Nat} {q : Nat → Nat} {h' : hp} {r : Int32} (R : XRet ω rm_X11_saying κ (some .int) L q h' (some (.int r))) : ∀ (h : hp), f_X11_saying_23 h = some (h', r) → XG ω rm_X11_saying 8 κ L q h 0 0 23 [] [] := by
  intro h hf
  unfold f_X11_saying_23 at hf
  refine x_iconst X (v := -1) dX11_saying_23 (by decide) ?_
  exact x_retSI X R hf dX11_saying_24
set_option maxRecDepth 100000 in
set_option maxHeartbeats 4000000 in
theorem k_X11_saying_85 {ω : XO} (hω : ω.2.2.2.1 = 1) {κ : XK} (X : XC ω rm_X11_saying 8 κ cX11_saying "SignalBlind") {L : List Nat} {q : Nat → Nat} {h' : hp} {r : Int32} (R : XRet ω rm_X11_saying κ (some .int) L q h' (some (.int r))) (k48 : hp → Int32 → Int32 → Int32 → Int32 → Int32 → Int32 → Option (hp × Int32)) (hk48 : ∀ (h : hp) (a12 : Int32) (a13 : Int32) (a14 : Int32) (a15 : Int32) (a16 : Int32) (a17 : Int32), k48 h a12 a13 a14 a15 a16 a17 = some (h', r) → XG ω rm_X11_saying 8 κ L q h 0 0 48 [(0, .ref (q 0)), (1, .int a12), (3, .int a13), (4, .int a14), (5, .int a15), (6, .int a16), (7, .int a17)] []) : ∀ (h : hp) (a31 : Int32) (a32 : Int32) (a33 : Int32) (a34 : Int32) (a35 : Int32) (a36 : Int32), f_X11_saying_85 k48 h a31 a32 a33 a34 a35 a36 = some (h', r) → XG ω rm_X11_saying 8 κ L q h 0 0 85 [(0, .ref (q 0)), (1, .int a31), (3, .int a32), (4, .int a33), (5, .int a34), (6, .int a35), (7, .int a36)] [] := by
  intro h a31 a32 a33 a34 a35 a36 hf
  unfold f_X11_saying_85 at hf
  obtain ⟨v37, ev37, hf⟩ := nm_some hf
  refine x_iincN X (v := 1) ev37 [(7, .int v37), (0, .ref (q 0)), (1, .int a31), (3, .int a32), (4, .int a33), (5, .int a34), (6, .int a35)] dX11_saying_85 6 rfl (by decide) (Nat.le_of_ble_eq_true rfl) rfl ?_
  refine x_goto X 48 dX11_saying_88 (by decide) ?_
  refine x_lv [1, 2, 3, 4, 5, 6, 0] rfl ?_
  exact hk48 h _ _ _ _ _ _ hf
set_option maxRecDepth 100000 in
set_option maxHeartbeats 4000000 in
theorem k_X11_saying_80 {ω : XO} (hω : ω.2.2.2.1 = 1) {κ : XK} (X : XC ω rm_X11_saying 8 κ cX11_saying "SignalBlind") {L : List Nat} {q : Nat → Nat} {h' : hp} {r : Int32} (R : XRet ω rm_X11_saying κ (some .int) L q h' (some (.int r))) (k48 : hp → Int32 → Int32 → Int32 → Int32 → Int32 → Int32 → Option (hp × Int32)) (hk48 : ∀ (h : hp) (a12 : Int32) (a13 : Int32) (a14 : Int32) (a15 : Int32) (a16 : Int32) (a17 : Int32), k48 h a12 a13 a14 a15 a16 a17 = some (h', r) → XG ω rm_X11_saying 8 κ L q h 0 0 48 [(0, .ref (q 0)), (1, .int a12), (3, .int a13), (4, .int a14), (5, .int a15), (6, .int a16), (7, .int a17)] []) : ∀ (h : hp) (a24 : Int32) (a25 : Int32) (a26 : Int32) (a27 : Int32) (a28 : Int32) (a29 : Int32), f_X11_saying_80 k48 h a24 a25 a26 a27 a28 a29 = some (h', r) → XG ω rm_X11_saying 8 κ L q h 0 0 80 [(0, .ref (q 0)), (1, .int a24), (3, .int a25), (4, .int a26), (6, .int a27), (7, .int a28)] [.int a29] := by
  intro h a24 a25 a26 a27 a28 a29 hf
  unfold f_X11_saying_80 at hf
  refine x_istore X [(5, .int a29), (0, .ref (q 0)), (1, .int a24), (3, .int a25), (4, .int a26), (6, .int a27), (7, .int a28)] dX11_saying_80 (Nat.le_of_ble_eq_true rfl) rfl ?_
  obtain ⟨v30, ev30, hf⟩ := nm_some hf
  refine x_iincN X (v := 1) ev30 [(6, .int v30), (5, .int a29), (0, .ref (q 0)), (1, .int a24), (3, .int a25), (4, .int a26), (7, .int a28)] dX11_saying_82 5 rfl (by decide) (Nat.le_of_ble_eq_true rfl) rfl ?_
  refine x_lv [2, 3, 4, 5, 1, 0, 6] rfl ?_
  exact k_X11_saying_85 hω X R _ hk48 h _ _ _ _ _ _ hf
set_option maxRecDepth 100000 in
set_option maxHeartbeats 4000000 in
theorem k_X11_saying_102 {ω : XO} (hω : ω.2.2.2.1 = 1) {κ : XK} (X : XC ω rm_X11_saying 8 κ cX11_saying "SignalBlind") {L : List Nat} {q : Nat → Nat} {h' : hp} {r : Int32} (R : XRet ω rm_X11_saying κ (some .int) L q h' (some (.int r))) : ∀ (h : hp) (a39 : Int32), f_X11_saying_102 h a39 = some (h', r) → XG ω rm_X11_saying 8 κ L q h 0 0 102 [] [.int a39] := by
  intro h a39 hf
  unfold f_X11_saying_102 at hf
  exact x_retSI X R hf dX11_saying_102
set_option maxRecDepth 100000 in
set_option maxHeartbeats 4000000 in
theorem k_X11_saying_48 {ω : XO} (hω : ω.2.2.2.1 = 1) {κ : XK} (X : XC ω rm_X11_saying 8 κ cX11_saying "SignalBlind") {L : List Nat} {q : Nat → Nat} {h' : hp} {r : Int32} (R : XRet ω rm_X11_saying κ (some .int) L q h' (some (.int r))) : ∀ (n : Nat) (h : hp) (a12 : Int32) (a13 : Int32) (a14 : Int32) (a15 : Int32) (a16 : Int32) (a17 : Int32), f_X11_saying_48 n h a12 a13 a14 a15 a16 a17 = some (h', r) → XG ω rm_X11_saying 8 κ L q h 0 0 48 [(0, .ref (q 0)), (1, .int a12), (3, .int a13), (4, .int a14), (5, .int a15), (6, .int a16), (7, .int a17)] [] := by
  intro n
  induction n with
  | zero =>
    intro h a12 a13 a14 a15 a16 a17 hf
    have hf : (none : Option (hp × Int32)) = some (h', r) := hf
    cases hf
  | succ n ih =>
    intro h a12 a13 a14 a15 a16 a17 hf
    rw [f_X11_saying_48] at hf
    refine x_iload X dX11_saying_48 6 rfl ?_
    refine x_sipush X (v := 1024) dX11_saying_50 (by decide) ?_
    refine x_icmp_ge X 91 dX11_saying_53 (by decide) (fun c18 => ?_) (fun c18 => ?_)
    · replace hf := (if_pos c18).symm.trans hf
      refine x_aload_n X dX11_saying_56 0 rfl rfl ?_
      refine x_iload_n X dX11_saying_57 1 rfl rfl ?_
      refine x_iload X dX11_saying_58 6 rfl ?_
      obtain ⟨h19, r20, g21, hf⟩ := bnd_some hf
      refine c_X11_136 X hω g21 (hR := ⟨Nat.le_of_ble_eq_true rfl, Nat.le_of_ble_eq_true rfl⟩) ⟨Nat.zero_le _, Nat.zero_le _⟩ (Nat.le_of_ble_eq_true rfl) dX11_saying_60 ?_
      refine x_iload X dX11_saying_63 3 rfl ?_
      refine x_icmp_ne X 85 dX11_saying_65 (by decide) (fun c22 => ?_) (fun c22 => ?_)
      · replace hf := (if_pos c22).symm.trans hf
        refine x_iload X dX11_saying_68 5 rfl ?_
        refine x_if_ne X 78 dX11_saying_70 (by decide) (fun c23 => ?_) (fun c23 => ?_)
        · replace hf := (if_pos c23).symm.trans hf
          refine x_iload X dX11_saying_73 6 rfl ?_
          refine x_goto X 80 dX11_saying_75 (by decide) ?_
          refine x_lv [0, 1, 2, 3, 5, 6] rfl ?_
          exact k_X11_saying_80 hω X R _ ih h19 _ _ _ _ _ _ hf
        · replace hf := (if_neg c23).symm.trans hf
          refine x_iload X dX11_saying_78 4 rfl ?_
          refine x_lv [0, 1, 2, 3, 5, 6] rfl ?_
          exact k_X11_saying_80 hω X R _ ih h19 _ _ _ _ _ _ hf
      · replace hf := (if_neg c22).symm.trans hf
        refine x_lv [0, 1, 2, 3, 4, 5, 6] rfl ?_
        exact k_X11_saying_85 hω X R _ ih h19 _ _ _ _ _ _ hf
    · replace hf := (if_neg c18).symm.trans hf
      refine x_iload_n X dX11_saying_91 2 rfl rfl ?_
      refine x_if_ne X 100 dX11_saying_92 (by decide) (fun c38 => ?_) (fun c38 => ?_)
      · replace hf := (if_pos c38).symm.trans hf
        refine x_iload X dX11_saying_95 4 rfl ?_
        refine x_goto X 102 dX11_saying_97 (by decide) ?_
        refine x_lv [] rfl ?_
        exact k_X11_saying_102 hω X R h _ hf
      · replace hf := (if_neg c38).symm.trans hf
        refine x_iload X dX11_saying_100 5 rfl ?_
        refine x_lv [] rfl ?_
        exact k_X11_saying_102 hω X R h _ hf
set_option maxRecDepth 100000 in
set_option maxHeartbeats 4000000 in
theorem k_X11_saying {ω : XO} (hω : ω.2.2.2.1 = 1) {L : List Nat} {q : Nat → Nat} {h h' : hp} {p0 : Int32} {p1 : Int32} {p2 : Int32} {r : Int32} (hf : f_X11_saying h p0 p1 p2 = some (h', r)) : XM ω yX11_saying cX11_saying 8 (some .int) rm_X11_saying L q h [.ref (q 0), .int p0, .int p1, .int p2] (some (.int r)) h' := by
  refine XM_intro [(0, .ref (q 0)), (1, .int p0), (2, .int p1), (3, .int p2)] "SignalBlind" (by decide) rfl rfl (Nat.le_of_ble_eq_true rfl) (fun κ X R => ?_)
  unfold f_X11_saying at hf
  refine x_aload_n X dX11_saying_0 0 rfl rfl ?_
  refine x_iload_n X dX11_saying_1 1 rfl rfl ?_
  obtain ⟨r1, g2, hf⟩ := bnr_some hf
  refine c_X11_112 X hω g2 (hR := ⟨Nat.le_of_ble_eq_true rfl, Nat.le_of_ble_eq_true rfl⟩) ⟨Nat.zero_le _, Nat.zero_le _⟩ (Nat.le_of_ble_eq_true rfl) dX11_saying_2 ?_
  refine x_if_eq X 23 dX11_saying_5 (by decide) (fun c3 => ?_) (fun c3 => ?_)
  · replace hf := (if_pos c3).symm.trans hf
    refine x_lv [] rfl ?_
    exact k_X11_saying_23 hω X R h hf
  · replace hf := (if_neg c3).symm.trans hf
    refine x_aload_n X dX11_saying_8 0 rfl rfl ?_
    refine x_iload_n X dX11_saying_9 2 rfl rfl ?_
    obtain ⟨r4, g5, hf⟩ := bnr_some hf
    refine c_X11_88 X hω g5 (hR := ⟨Nat.le_of_ble_eq_true rfl, Nat.le_of_ble_eq_true rfl⟩) ⟨Nat.zero_le _, Nat.zero_le _⟩ (Nat.le_of_ble_eq_true rfl) dX11_saying_10 ?_
    refine x_if_eq X 23 dX11_saying_13 (by decide) (fun c6 => ?_) (fun c6 => ?_)
    · replace hf := (if_pos c6).symm.trans hf
      refine x_lv [] rfl ?_
      exact k_X11_saying_23 hω X R h hf
    · replace hf := (if_neg c6).symm.trans hf
      refine x_iload_n X dX11_saying_16 3 rfl rfl ?_
      obtain ⟨r7, g8, hf⟩ := bnr_some hf
      refine c_X11_172 X hω g8 (hR := ⟨Nat.le_of_ble_eq_true rfl, Nat.le_of_ble_eq_true rfl⟩) ⟨Nat.zero_le _, Nat.zero_le _⟩ (Nat.le_of_ble_eq_true rfl) dX11_saying_17 ?_
      refine x_if_ne X 25 dX11_saying_20 (by decide) (fun c9 => ?_) (fun c9 => ?_)
      · replace hf := (if_pos c9).symm.trans hf
        refine x_lv [] rfl ?_
        exact k_X11_saying_23 hω X R h hf
      · replace hf := (if_neg c9).symm.trans hf
        refine x_aload_n X dX11_saying_25 0 rfl rfl ?_
        refine x_getsj X (i := 0) 1 fl_X11_14_12 (sdX_0 hω) (ks_0 _) rfl (j := 1) rfl dX11_saying_26 ?_
        refine x_getsj X (i := 1) 1 fl_X11_77_4 (sdX_1 hω) (ks_1 _) rfl (j := 2) rfl dX11_saying_29 ?_
        refine x_iload_n X dX11_saying_32 2 rfl rfl ?_
        obtain ⟨r10, g11, hf⟩ := bnr_some hf
        refine c_X11_91 X hω g11 (sdX_2 hω) (ks_2 _) (hR := ⟨Nat.le_of_ble_eq_true rfl, Nat.le_of_ble_eq_true rfl⟩) ⟨Nat.zero_le _, Nat.zero_le _⟩ (Nat.le_of_ble_eq_true rfl) dX11_saying_33 ?_
        refine x_istore X [(4, .int r10), (0, .ref (q 0)), (1, .int p0), (2, .int p1), (3, .int p2)] dX11_saying_36 (Nat.le_of_ble_eq_true rfl) rfl ?_
        refine x_bipush X (v := -5) dX11_saying_38 (by decide) ?_
        refine x_istore X [(5, .int (-5 : Int32)), (4, .int r10), (0, .ref (q 0)), (1, .int p0), (2, .int p1), (3, .int p2)] dX11_saying_40 (Nat.le_of_ble_eq_true rfl) rfl ?_
        refine x_iconst X (v := 0) dX11_saying_42 (by decide) ?_
        refine x_istore X [(6, .int (0 : Int32)), (5, .int (-5 : Int32)), (4, .int r10), (0, .ref (q 0)), (1, .int p0), (2, .int p1), (3, .int p2)] dX11_saying_43 (Nat.le_of_ble_eq_true rfl) rfl ?_
        refine x_iconst X (v := 0) dX11_saying_45 (by decide) ?_
        refine x_istore X [(7, .int (0 : Int32)), (6, .int (0 : Int32)), (5, .int (-5 : Int32)), (4, .int r10), (0, .ref (q 0)), (1, .int p0), (2, .int p1), (3, .int p2)] dX11_saying_46 (Nat.le_of_ble_eq_true rfl) rfl ?_
        refine x_lv [4, 5, 7, 3, 2, 1, 0] rfl ?_
        exact k_X11_saying_48 hω X R _ h _ _ _ _ _ _ hf
theorem mt_X11_saying : MT yX11_saying cX11_saying 8 (some .int) "SignalBlind" 3 := ⟨(mT_3 168 rfl rfl), (mT_3 169 rfl rfl), (mT_1 1 rfl rfl), (mT_3 170 rfl rfl), by decide⟩
