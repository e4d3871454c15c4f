abbrev rm_X11_when : Room := { frames := 5, cells := 0, slots := 0, locals := 127 }
def f_X11_when_15 (h : hp) : Option (hp × Int32) := (some (h, (-1 : Int32)))
def f_X11_when_78 (k26 : hp → Int32 → Int32 → Int32 → Int32 → Int32 → Option (hp × Int32)) (h : hp) (a20 : Int32) (a21 : Int32) (a22 : Int32) (a23 : Int32) (a24 : Int32) : Option (hp × Int32) := (nm (a24 + (1 : Int32)) fun v25 =>
 (k26 h a20 a21 a22 a23 v25))
def f_X11_when_74 (k26 : hp → Int32 → Int32 → Int32 → Int32 → Int32 → Option (hp × Int32)) (h : hp) (a27 : Int32) (a28 : Int32) (a29 : Int32) (a30 : Int32) (a31 : Int32) : Option (hp × Int32) := (nm (a29 + (1 : Int32)) fun v32 =>
 (f_X11_when_78 k26 h a27 a28 a31 v32 a30))
def f_X11_when_94 (h : hp) (a34 : Int32) : Option (hp × Int32) := (some (h, a34))
def f_X11_when_26 : Nat → hp → Int32 → Int32 → Int32 → Int32 → Int32 → Option (hp × Int32)
  | 0, _, _, _, _, _, _ => none
  | n + 1, h, a7, a8, a9, a10, a11 => (if a11 < (24 : Int32) then
 (chk a7 5
 (onO (aR h 4 (a7).toNatClampNeg) none fun i14 =>
 (ckS h i14
 (bnd (f_X11_fitsSeen h a7 (hI h i14 2) ((hI h 1 5) + a11)) fun h16 r17 =>
 (if r17 = 0 then
 (f_X11_when_78 (f_X11_when_26 n) h16 a7 a8 a9 a10 a11)
 else
 (if a10 = 0 then
 (f_X11_when_74 (f_X11_when_26 n) h16 a7 a8 a10 a11 a11)
 else
 (f_X11_when_74 (f_X11_when_26 n) h16 a7 a8 a10 a11 a9)))))))
 else
 (if a8 = 0 then
 (f_X11_when_94 h a10)
 else
 (f_X11_when_94 h a9)))
def f_X11_when (h : hp) (p0 : Int32) (p1 : Int32) : Option (hp × Int32) := (bnr (f_X11_isSender h p0) fun r1 =>
 (if r1 = 0 then
 (f_X11_when_15 h)
 else
 (bnr (f_X11_isPart h p1) fun r4 =>
 (if r4 = 0 then
 (f_X11_when_15 h)
 else
 (f_X11_when_26 2000 h p0 p1 (-5 : Int32) (0 : Int32) (0 : Int32))))))
set_option maxRecDepth 100000 in
set_option maxHeartbeats 4000000 in
theorem k_X11_when_15 {ω : XO} (hω : ω.2.2.2.1 = 1) {κ : XK} (X : XC ω rm_X11_when 6 κ cX11_when "SignalBlind") {L : List Nat} {q : Nat → Nat} {h' : hp} {r : Int32} (R : XRet ω rm_X11_when κ (some .int) L q h' (some (.int r))) : ∀ (h : hp), f_X11_when_15 h = some (h', r) → XG ω rm_X11_when 6 κ L q h 0 0 15 [] [] := by
  intro h hf
  unfold f_X11_when_15 at hf
  refine x_iconst X (v := -1) dX11_when_15 (by decide) ?_
  exact x_retSI X R hf dX11_when_16
set_option maxRecDepth 100000 in
set_option maxHeartbeats 4000000 in
theorem k_X11_when_78 {ω : XO} (hω : ω.2.2.2.1 = 1) {κ : XK} (X : XC ω rm_X11_when 6 κ cX11_when "SignalBlind") {L : List Nat} {q : Nat → Nat} {h' : hp} {r : Int32} (R : XRet ω rm_X11_when κ (some .int) L q h' (some (.int r))) (k26 : hp → Int32 → Int32 → Int32 → Int32 → Int32 → Option (hp × Int32)) (hk26 : ∀ (h : hp) (a7 : Int32) (a8 : Int32) (a9 : Int32) (a10 : Int32) (a11 : Int32), k26 h a7 a8 a9 a10 a11 = some (h', r) → XG ω rm_X11_when 6 κ L q h 0 0 26 [(0, .ref (q 0)), (1, .int a7), (2, .int a8), (3, .int a9), (4, .int a10), (5, .int a11)] []) : ∀ (h : hp) (a20 : Int32) (a21 : Int32) (a22 : Int32) (a23 : Int32) (a24 : Int32), f_X11_when_78 k26 h a20 a21 a22 a23 a24 = some (h', r) → XG ω rm_X11_when 6 κ L q h 0 0 78 [(0, .ref (q 0)), (1, .int a20), (2, .int a21), (3, .int a22), (4, .int a23), (5, .int a24)] [] := by
  intro h a20 a21 a22 a23 a24 hf
  unfold f_X11_when_78 at hf
  obtain ⟨v25, ev25, hf⟩ := nm_some hf
  refine x_iincN X (v := 1) ev25 [(5, .int v25), (0, .ref (q 0)), (1, .int a20), (2, .int a21), (3, .int a22), (4, .int a23)] dX11_when_78 5 rfl (by decide) (Nat.le_of_ble_eq_true rfl) rfl ?_
  refine x_goto X 26 dX11_when_81 (by decide) ?_
  refine x_lv [1, 2, 3, 4, 5, 0] rfl ?_
  exact hk26 h _ _ _ _ _ hf
set_option maxRecDepth 100000 in
set_option maxHeartbeats 4000000 in
theorem k_X11_when_74 {ω : XO} (hω : ω.2.2.2.1 = 1) {κ : XK} (X : XC ω rm_X11_when 6 κ cX11_when "SignalBlind") {L : List Nat} {q : Nat → Nat} {h' : hp} {r : Int32} (R : XRet ω rm_X11_when κ (some .int) L q h' (some (.int r))) (k26 : hp → Int32 → Int32 → Int32 → Int32 → Int32 → Option (hp × Int32)) (hk26 : ∀ (h : hp) (a7 : Int32) (a8 : Int32) (a9 : Int32) (a10 : Int32) (a11 : Int32), k26 h a7 a8 a9 a10 a11 = some (h', r) → XG ω rm_X11_when 6 κ L q h 0 0 26 [(0, .ref (q 0)), (1, .int a7), (2, .int a8), (3, .int a9), (4, .int a10), (5, .int a11)] []) : ∀ (h : hp) (a27 : Int32) (a28 : Int32) (a29 : Int32) (a30 : Int32) (a31 : Int32), f_X11_when_74 k26 h a27 a28 a29 a30 a31 = some (h', r) → XG ω rm_X11_when 6 κ L q h 0 0 74 [(0, .ref (q 0)), (1, .int a27), (2, .int a28), (4, .int a29), (5, .int a30)] [.int a31] := by
  intro h a27 a28 a29 a30 a31 hf
  unfold f_X11_when_74 at hf
  refine x_istore_n X [(3, .int a31), (0, .ref (q 0)), (1, .int a27), (2, .int a28), (4, .int a29), (5, .int a30)] dX11_when_74 rfl (Nat.le_of_ble_eq_true rfl) rfl ?_
  obtain ⟨v32, ev32, hf⟩ := nm_some hf
  refine x_iincN X (v := 1) ev32 [(4, .int v32), (3, .int a31), (0, .ref (q 0)), (1, .int a27), (2, .int a28), (5, .int a30)] dX11_when_75 4 rfl (by decide) (Nat.le_of_ble_eq_true rfl) rfl ?_
  refine x_lv [2, 3, 4, 1, 0, 5] rfl ?_
  exact k_X11_when_78 hω X R _ hk26 h _ _ _ _ _ hf
set_option maxRecDepth 100000 in
set_option maxHeartbeats 4000000 in
theorem k_X11_when_94 {ω : XO} (hω : ω.2.2.2.1 = 1) {κ : XK} (X : XC ω rm_X11_when 6 κ cX11_when "SignalBlind") {L : List Nat} {q : Nat → Nat} {h' : hp} {r : Int32} (R : XRet ω rm_X11_when κ (some .int) L q h' (some (.int r))) : ∀ (h : hp) (a34 : Int32), f_X11_when_94 h a34 = some (h', r) → XG ω rm_X11_when 6 κ L q h 0 0 94 [] [.int a34] := by
  intro h a34 hf
  unfold f_X11_when_94 at hf
  exact x_retSI X R hf dX11_when_94
set_option maxRecDepth 100000 in
set_option maxHeartbeats 4000000 in
theorem k_X11_when_26 {ω : XO} (hω : ω.2.2.2.1 = 1) {κ : XK} (X : XC ω rm_X11_when 6 κ cX11_when "SignalBlind") {L : List Nat} {q : Nat → Nat} {h' : hp} {r : Int32} (R : XRet ω rm_X11_when κ (some .int) L q h' (some (.int r))) : ∀ (n : Nat) (h : hp) (a7 : Int32) (a8 : Int32) (a9 : Int32) (a10 : Int32) (a11 : Int32), f_X11_when_26 n h a7 a8 a9 a10 a11 = some (h', r) → XG ω rm_X11_when 6 κ L q h 0 0 26 [(0, .ref (q 0)), (1, .int a7), (2, .int a8), (3, .int a9), (4, .int a10), (5, .int a11)] [] := by
  intro n
  induction n with
  | zero =>
    intro h a7 a8 a9 a10 a11 hf
    have hf : (none : Option (hp × Int32)) = some (h', r) := hf
    cases hf
  | succ n ih =>
    intro h a7 a8 a9 a10 a11 hf
    rw [f_X11_when_26] at hf
    refine x_iload X dX11_when_26 5 rfl ?_
    refine x_bipush X (v := 24) dX11_when_28 (by decide) ?_
    refine x_icmp_ge X 84 dX11_when_30 (by decide) (fun c12 => ?_) (fun c12 => ?_)
    · replace hf := (if_pos c12).symm.trans hf
      refine x_aload_n X dX11_when_33 0 rfl rfl ?_
      refine x_iload_n X dX11_when_34 1 rfl rfl ?_
      refine x_aload_n X dX11_when_35 0 rfl rfl ?_
      refine x_getsj X (i := 0) 1 fl_X11_14_12 (sdX_0 hω) (ks_0 _) rfl (j := 1) rfl dX11_when_36 ?_
      refine x_getsj X (i := 1) 3 fl_X11_115_4 (sdX_1 hω) (ks_1 _) rfl (j := 4) rfl dX11_when_39 ?_
      refine x_iload_n X dX11_when_42 1 rfl rfl ?_
      obtain ⟨z13, hf⟩ := chk_some hf
      refine x_aald X (i := 4) (n := 5) (e := 4) (by decide) (sdX_4 hω) (ks_4 _) z13 dX11_when_43 ?_
      obtain ⟨i14, ei14, hf⟩ := onO_some hf
      refine x_nn ei14 ?_
      obtain ⟨b15, hf⟩ := ckS_some hf
      refine x_getS_X11_124 X hω b15 dX11_when_44 ?_
      refine x_aload_n X dX11_when_47 0 rfl rfl ?_
      refine x_getsj X (i := 0) 1 fl_X11_14_12 (sdX_0 hω) (ks_0 _) rfl (j := 1) rfl dX11_when_48 ?_
      refine x_geti X (i := 1) fl_X11_158_4 (sdX_1 hω) (ks_1 _) rfl dX11_when_51 ?_
      refine x_iload X dX11_when_54 5 rfl ?_
      refine x_iadd X dX11_when_56 ?_
      obtain ⟨h16, r17, g18, hf⟩ := bnd_some hf
      refine c_X11_192 X hω g18 (hR := ⟨Nat.le_of_ble_eq_true rfl, Nat.le_of_ble_eq_true rfl⟩) ⟨Nat.zero_le _, Nat.zero_le _⟩ (Nat.le_of_ble_eq_true rfl) dX11_when_57 ?_
      refine x_if_eq X 78 dX11_when_60 (by decide) (fun c19 => ?_) (fun c19 => ?_)
      · replace hf := (if_pos c19).symm.trans hf
        refine x_lv [0, 1, 2, 3, 4, 5] rfl ?_
        exact k_X11_when_78 hω X R _ ih h16 _ _ _ _ _ hf
      · replace hf := (if_neg c19).symm.trans hf
        refine x_iload X dX11_when_63 4 rfl ?_
        refine x_if_ne X 73 dX11_when_65 (by decide) (fun c26 => ?_) (fun c26 => ?_)
        · replace hf := (if_pos c26).symm.trans hf
          refine x_iload X dX11_when_68 5 rfl ?_
          refine x_goto X 74 dX11_when_70 (by decide) ?_
          refine x_lv [0, 1, 2, 4, 5] rfl ?_
          exact k_X11_when_74 hω X R _ ih h16 _ _ _ _ _ hf
        · replace hf := (if_neg c26).symm.trans hf
          refine x_iload_n X dX11_when_73 3 rfl rfl ?_
          refine x_lv [0, 1, 2, 4, 5] rfl ?_
          exact k_X11_when_74 hω X R _ ih h16 _ _ _ _ _ hf
    · replace hf := (if_neg c12).symm.trans hf
      refine x_iload_n X dX11_when_84 2 rfl rfl ?_
      refine x_if_ne X 93 dX11_when_85 (by decide) (fun c33 => ?_) (fun c33 => ?_)
      · replace hf := (if_pos c33).symm.trans hf
        refine x_iload X dX11_when_88 4 rfl ?_
        refine x_goto X 94 dX11_when_90 (by decide) ?_
        refine x_lv [] rfl ?_
        exact k_X11_when_94 hω X R h _ hf
      · replace hf := (if_neg c33).symm.trans hf
        refine x_iload_n X dX11_when_93 3 rfl rfl ?_
        refine x_lv [] rfl ?_
        exact k_X11_when_94 hω X R h _ hf
set_option maxRecDepth 100000 in
set_option maxHeartbeats 4000000 in
theorem k_X11_when {ω : XO} (hω : ω.2.2.2.1 = 1) {L : List Nat} {q : Nat → Nat} {h h' : hp} {p0 : Int32} {p1 : Int32} {r : Int32} (hf : f_X11_when h p0 p1 = some (h', r)) : XM ω yX11_when cX11_when 6 (some .int) rm_X11_when L q h [.ref (q 0), .int p0, .int p1] (some (.int r)) h' := by
  refine XM_intro [(0, .ref (q 0)), (1, .int p0), (2, .int p1)] "SignalBlind" (by decide) rfl rfl (Nat.le_of_ble_eq_true rfl) (fun κ X R => ?_)
  unfold f_X11_when at hf
  refine x_aload_n X dX11_when_0 0 rfl rfl ?_
  refine x_iload_n X dX11_when_1 1 rfl rfl ?_
  obtain ⟨r1, g2, hf⟩ := bnr_some hf
  refine c_X11_112 X hω g2 (hR := ⟨Nat.le_of_ble_eq_true rfl, Nat.le_of_ble_eq_true rfl⟩) ⟨Nat.zero_le _, Nat.zero_le _⟩ (Nat.le_of_ble_eq_true rfl) dX11_when_2 ?_
  refine x_if_eq X 15 dX11_when_5 (by decide) (fun c3 => ?_) (fun c3 => ?_)
  · replace hf := (if_pos c3).symm.trans hf
    refine x_lv [] rfl ?_
    exact k_X11_when_15 hω X R h hf
  · replace hf := (if_neg c3).symm.trans hf
    refine x_iload_n X dX11_when_8 2 rfl rfl ?_
    obtain ⟨r4, g5, hf⟩ := bnr_some hf
    refine c_X11_172 X hω g5 (hR := ⟨Nat.le_of_ble_eq_true rfl, Nat.le_of_ble_eq_true rfl⟩) ⟨Nat.zero_le _, Nat.zero_le _⟩ (Nat.le_of_ble_eq_true rfl) dX11_when_9 ?_
    refine x_if_ne X 17 dX11_when_12 (by decide) (fun c6 => ?_) (fun c6 => ?_)
    · replace hf := (if_pos c6).symm.trans hf
      refine x_lv [] rfl ?_
      exact k_X11_when_15 hω X R h hf
    · replace hf := (if_neg c6).symm.trans hf
      refine x_bipush X (v := -5) dX11_when_17 (by decide) ?_
      refine x_istore_n X [(3, .int (-5 : Int32)), (0, .ref (q 0)), (1, .int p0), (2, .int p1)] dX11_when_19 rfl (Nat.le_of_ble_eq_true rfl) rfl ?_
      refine x_iconst X (v := 0) dX11_when_20 (by decide) ?_
      refine x_istore X [(4, .int (0 : Int32)), (3, .int (-5 : Int32)), (0, .ref (q 0)), (1, .int p0), (2, .int p1)] dX11_when_21 (Nat.le_of_ble_eq_true rfl) rfl ?_
      refine x_iconst X (v := 0) dX11_when_23 (by decide) ?_
      refine x_istore X [(5, .int (0 : Int32)), (4, .int (0 : Int32)), (3, .int (-5 : Int32)), (0, .ref (q 0)), (1, .int p0), (2, .int p1)] dX11_when_24 (Nat.le_of_ble_eq_true rfl) rfl ?_
      refine x_lv [3, 4, 5, 2, 1, 0] rfl ?_
      exact k_X11_when_26 hω X R _ h _ _ _ _ _ hf
theorem mt_X11_when : MT yX11_when cX11_when 6 (some .int) "SignalBlind" 2 := ⟨(mT_3 226 rfl rfl), (mT_3 227 rfl rfl), (mT_1 1 rfl rfl), (mT_3 228 rfl rfl), by decide⟩

abbrev rm_X11_lowest : Room := { frames := 0, cells := 0, slots := 0, locals := 0 }
def f_X11_lowest_43 (h : hp) (a8 : Int32) (a9 : Int32) : Option Int64 := (nz a8
 (some (((a9 / a8)).toInt64)))
def f_X11_lowest_28 (h : hp) (k5 : Int32 → Int32 → Int32 → Int32 → Int32 → Option Int64) (a15 : Int32) (a16 : Int32) (a17 : Int32) (a18 : Int32) (a19 : Int32) : Option Int64 := (nm (a19 + (1 : Int32)) fun v20 =>
 (k5 a15 a16 a17 a18 v20))
def f_X11_lowest_5 (h : hp) : Nat → Int32 → Int32 → Int32 → Int32 → Int32 → Option Int64
  | 0, _, _, _, _, _ => none
  | n + 1, a1, a2, a3, a4, a5 => (if a2 < a5 then
 (if a3 = 0 then
 (f_X11_lowest_43 h a4 a1)
 else
 (f_X11_lowest_43 h a4 a2))
 else
 (nz a5
 (if (a1 - a1 / a5 * a5) = 0 then
 (nz a5
 (if (a2 - a2 / a5 * a5) = 0 then
 (f_X11_lowest_28 h (f_X11_lowest_5 h n) a1 a2 a3 a5 a5)
 else
 (f_X11_lowest_28 h (f_X11_lowest_5 h n) a1 a2 a3 a4 a5)))
 else
 (f_X11_lowest_28 h (f_X11_lowest_5 h n) a1 a2 a3 a4 a5))))
def f_X11_lowest (h : hp) (p0 : Int32) (p1 : Int32) (p2 : Int32) : Option Int64 := (f_X11_lowest_5 h 2000 p0 p1 p2 (1 : Int32) (2 : Int32))
set_option maxRecDepth 100000 in
set_option maxHeartbeats 4000000 in
theorem k_X11_lowest_43 {ω : XO} (hω : ω.2.2.2.1 = 1) {κ : XK} (X : XC ω rm_X11_lowest 5 κ cX11_lowest "SignalBlind") {L : List Nat} {q : Nat → Nat} {h : hp} {r : Int64} (R : XRet ω rm_X11_lowest κ (some .long) L q h (some (.long r))) : ∀ (a8 : Int32) (a9 : Int32), f_X11_lowest_43 h a8 a9 = some r → XG ω rm_X11_lowest 5 κ L q h 0 0 43 [(3, .int a8)] [.int a9] := by
  intro a8 a9 hf
  unfold f_X11_lowest_43 at hf
  refine x_iload_n X dX11_lowest_43 0 rfl rfl ?_
  obtain ⟨z10, hf⟩ := nz_some hf
  refine x_idiv X dX11_lowest_44 z10 ?_
  refine x_i2l X dX11_lowest_45 ?_
  exact x_retRL X R hf dX11_lowest_46
set_option maxRecDepth 100000 in
set_option maxHeartbeats 4000000 in
theorem k_X11_lowest_28 {ω : XO} (hω : ω.2.2.2.1 = 1) {κ : XK} (X : XC ω rm_X11_lowest 5 κ cX11_lowest "SignalBlind") {L : List Nat} {q : Nat → Nat} {h : hp} {r : Int64} (R : XRet ω rm_X11_lowest κ (some .long) L q h (some (.long r))) (k5 : Int32 → Int32 → Int32 → Int32 → Int32 → Option Int64) (hk5 : ∀ (a1 : Int32) (a2 : Int32) (a3 : Int32) (a4 : Int32) (a5 : Int32), k5 a1 a2 a3 a4 a5 = some r → XG ω rm_X11_lowest 5 κ L q h 0 0 5 [(0, .int a1), (1, .int a2), (2, .int a3), (3, .int a4), (4, .int a5)] []) : ∀ (a15 : Int32) (a16 : Int32) (a17 : Int32) (a18 : Int32) (a19 : Int32), f_X11_lowest_28 h k5 a15 a16 a17 a18 a19 = some r → XG ω rm_X11_lowest 5 κ L q h 0 0 28 [(0, .int a15), (1, .int a16), (2, .int a17), (3, .int a18), (4, .int a19)] [] := by
  intro a15 a16 a17 a18 a19 hf
  unfold f_X11_lowest_28 at hf
  obtain ⟨v20, ev20, hf⟩ := nm_some hf
  refine x_iincN X (v := 1) ev20 [(4, .int v20), (0, .int a15), (1, .int a16), (2, .int a17), (3, .int a18)] dX11_lowest_28 4 rfl (by decide) (Nat.le_of_ble_eq_true rfl) rfl ?_
  refine x_goto X 5 dX11_lowest_31 (by decide) ?_
  refine x_lv [1, 2, 3, 4, 0] rfl ?_
  exact hk5 _ _ _ _ _ hf
set_option maxRecDepth 100000 in
set_option maxHeartbeats 4000000 in
theorem k_X11_lowest_5 {ω : XO} (hω : ω.2.2.2.1 = 1) {κ : XK} (X : XC ω rm_X11_lowest 5 κ cX11_lowest "SignalBlind") {L : List Nat} {q : Nat → Nat} {h : hp} {r : Int64} (R : XRet ω rm_X11_lowest κ (some .long) L q h (some (.long r))) : ∀ (n : Nat) (a1 : Int32) (a2 : Int32) (a3 : Int32) (a4 : Int32) (a5 : Int32), f_X11_lowest_5 h n a1 a2 a3 a4 a5 = some r → XG ω rm_X11_lowest 5 κ L q h 0 0 5 [(0, .int a1), (1, .int a2), (2, .int a3), (3, .int a4), (4, .int a5)] [] := by
  intro n
  induction n with
  | zero =>
    intro a1 a2 a3 a4 a5 hf
    have hf : (none : Option Int64) = some r := hf
    cases hf
  | succ n ih =>
    intro a1 a2 a3 a4 a5 hf
    rw [f_X11_lowest_5] at hf
    refine x_iload X dX11_lowest_5 4 rfl ?_
    refine x_iload_n X dX11_lowest_7 1 rfl rfl ?_
    refine x_icmp_gt X 34 dX11_lowest_8 (by decide) (fun c6 => ?_) (fun c6 => ?_)
    · replace hf := (if_pos c6).symm.trans hf
      refine x_iload_n X dX11_lowest_34 2 rfl rfl ?_
      refine x_if_ne X 42 dX11_lowest_35 (by decide) (fun c7 => ?_) (fun c7 => ?_)
      · replace hf := (if_pos c7).symm.trans hf
        refine x_iload_n X dX11_lowest_38 0 rfl rfl ?_
        refine x_goto X 43 dX11_lowest_39 (by decide) ?_
        refine x_lv [3] rfl ?_
        exact k_X11_lowest_43 hω X R _ _ hf
      · replace hf := (if_neg c7).symm.trans hf
        refine x_iload_n X dX11_lowest_42 1 rfl rfl ?_
        refine x_lv [3] rfl ?_
        exact k_X11_lowest_43 hω X R _ _ hf
    · replace hf := (if_neg c6).symm.trans hf
      refine x_iload_n X dX11_lowest_11 0 rfl rfl ?_
      refine x_iload X dX11_lowest_12 4 rfl ?_
      obtain ⟨z11, hf⟩ := nz_some hf
      refine x_irem X dX11_lowest_14 z11 ?_
      refine x_if_ne X 28 dX11_lowest_15 (by decide) (fun c12 => ?_) (fun c12 => ?_)
      · replace hf := (if_pos c12).symm.trans hf
        refine x_iload_n X dX11_lowest_18 1 rfl rfl ?_
        refine x_iload X dX11_lowest_19 4 rfl ?_
        obtain ⟨z13, hf⟩ := nz_some hf
        refine x_irem X dX11_lowest_21 z13 ?_
        refine x_if_ne X 28 dX11_lowest_22 (by decide) (fun c14 => ?_) (fun c14 => ?_)
        · replace hf := (if_pos c14).symm.trans hf
          refine x_iload X dX11_lowest_25 4 rfl ?_
          refine x_istore_n X [(3, .int a5), (0, .int a1), (1, .int a2), (2, .int a3), (4, .int a5)] dX11_lowest_27 rfl (Nat.le_of_ble_eq_true rfl) rfl ?_
          refine x_lv [1, 2, 3, 0, 4] rfl ?_
          exact k_X11_lowest_28 hω X R _ ih _ _ _ _ _ hf
        · replace hf := (if_neg c14).symm.trans hf
          refine x_lv [0, 1, 2, 3, 4] rfl ?_
          exact k_X11_lowest_28 hω X R _ ih _ _ _ _ _ hf
      · replace hf := (if_neg c12).symm.trans hf
        refine x_lv [0, 1, 2, 3, 4] rfl ?_
        exact k_X11_lowest_28 hω X R _ ih _ _ _ _ _ hf
set_option maxRecDepth 100000 in
set_option maxHeartbeats 4000000 in
theorem k_X11_lowest {ω : XO} (hω : ω.2.2.2.1 = 1) {L : List Nat} {q : Nat → Nat} {h : hp} {p0 : Int32} {p1 : Int32} {p2 : Int32} {r : Int64} (hf : f_X11_lowest h p0 p1 p2 = some r) : XM ω yX11_lowest cX11_lowest 5 (some .long) rm_X11_lowest L q h [.int p0, .int p1, .int p2] (some (.long r)) h := by
  refine XM_intro [(0, .int p0), (1, .int p1), (2, .int p2)] "SignalBlind" (by decide) rfl rfl (Nat.le_of_ble_eq_true rfl) (fun κ X R => ?_)
  unfold f_X11_lowest at hf
  refine x_iconst X (v := 1) dX11_lowest_0 (by decide) ?_
  refine x_istore_n X [(3, .int (1 : Int32)), (0, .int p0), (1, .int p1), (2, .int p2)] dX11_lowest_1 rfl (Nat.le_of_ble_eq_true rfl) rfl ?_
  refine x_iconst X (v := 2) dX11_lowest_2 (by decide) ?_
  refine x_istore X [(4, .int (2 : Int32)), (3, .int (1 : Int32)), (0, .int p0), (1, .int p1), (2, .int p2)] dX11_lowest_3 (Nat.le_of_ble_eq_true rfl) rfl ?_
  refine x_lv [2, 3, 4, 1, 0] rfl ?_
  exact k_X11_lowest_5 hω X R _ _ _ _ _ _ hf
theorem mt_X11_lowest : MS yX11_lowest cX11_lowest 5 (some .long) 3 := ⟨(mT_3 235 rfl rfl), (mT_1 1 rfl rfl), (mT_3 236 rfl rfl), by decide⟩
theorem c_X11_197 {ω : XO} {rm : Room} {nL : Nat} {κ : XK} {cc : ByteArray} (X : XC ω rm nL κ cc "SignalBlind") (hω : ω.2.2.2.1 = 1) {L : List Nat} {q : Nat → Nat} {h : hp} {cells slots pc : Nat} {lv : List (Nat × Value)} {rest : List Value} {p0 : Int32} {p1 : Int32} {p2 : Int32} {r : Int64} (hf : f_X11_lowest h p0 p1 p2 = some r) (hR : rm_X11_lowest.frames + 1 ≤ rm.frames ∧ 8 + (5 + 11) + rm_X11_lowest.locals ≤ rm.locals) (hcs : cells ≤ rm.cells ∧ slots ≤ rm.slots) (hroom : (rest.map fun v => v.category).sum ≤ 8) (hd : decode cc pc = .ok (.invokestatic 197, 3)) (kk : XG ω rm nL κ L q h cells slots (pc + 3) lv (.long r :: rest)) : XG ω rm nL κ L q h cells slots pc lv (.int p2 :: .int p1 :: .int p0 :: rest) := x_callS X [.int p0, .int p1, .int p2] rest (k_X11_lowest hω hf) mt_X11_lowest (mT_3 234 rfl rfl) hR ⟨rfl, rfl⟩ hcs rfl hroom hd kk

abbrev rm_X11_odds : Room := { frames := 5, cells := 0, slots := 0, locals := 124 }
def f_X11_odds_23 (h : hp) : Option (hp × Int64) := (some (h, (-9223372036854775808 : Int64)))
def f_X11_odds_76 (k51 : hp → Int32 → Int32 → Int32 → Int32 → Int32 → Option (hp × Int64)) (h : hp) (a25 : Int32) (a26 : Int32) (a27 : Int32) (a28 : Int32) (a29 : Int32) : Option (hp × Int64) := (nm (a29 + (1 : Int32)) fun v30 =>
 (k51 h a25 a26 a27 a28 v30))
def f_X11_odds_51 : Nat → hp → Int32 → Int32 → Int32 → Int32 → Int32 → Option (hp × Int64)
  | 0, _, _, _, _, _, _ => none
  | n + 1, h, a15, a16, a17, a18, a19 => (if a19 < (10 : Int32) then
 (bnr (f_X11_readAs h (a17 ^^^ ((1 : Int32) <<< (a19 &&& 31)))) fun r21 =>
 (if r21 = a15 then
 (nm (a18 + (1 : Int32)) fun v24 =>
 (f_X11_odds_76 (f_X11_odds_51 n) h a15 a16 a17 v24 a19))
 else
 (f_X11_odds_76 (f_X11_odds_51 n) h a15 a16 a17 a18 a19)))
 else
 (bnr (f_X11_lowest h a18 (10 : Int32) a16) fun r31 =>
 (some (h, r31))))
def f_X11_odds (h : hp) (p0 : Int32) (p1 : Int32) (p2 : Int32) : Option (hp × Int64) := (bnr (f_X11_isSender h p0) fun r1 =>
 (if r1 = 0 then
 (f_X11_odds_23 h)
 else
 (bnr (f_X11_isWord h p1) fun r4 =>
 (if r4 = 0 then
 (f_X11_odds_23 h)
 else
 (bnr (f_X11_isPart h p2) fun r7 =>
 (if r7 = 0 then
 (f_X11_odds_23 h)
 else
 (bnr (f_X2_get h 2 p1) fun r10 =>
 (bnd (f_X11_shownNow h p0 r10) fun h12 r13 =>
 (f_X11_odds_51 2000 h12 p1 p2 r13 (0 : Int32) (0 : Int32))))))))))
set_option maxRecDepth 100000 in
set_option maxHeartbeats 4000000 in
theorem k_X11_odds_23 {ω : XO} (hω : ω.2.2.2.1 = 1) {κ : XK} (X : XC ω rm_X11_odds 7 κ cX11_odds "SignalBlind") {L : List Nat} {q : Nat → Nat} {h' : hp} {r : Int64} (R : XRet ω rm_X11_odds κ (some .long) L q h' (some (.long r))) : ∀ (h : hp), f_X11_odds_23 h = some (h', r) → XG ω rm_X11_odds 7 κ L q h 0 0 23 [] [] := by
  intro h hf
  unfold f_X11_odds_23 at hf
  refine x_ldc2 X (v := -9223372036854775808) (mT_3 233 rfl rfl) dX11_odds_23 ?_
  exact x_retSL X R hf dX11_odds_26
set_option maxRecDepth 100000 in
set_option maxHeartbeats 4000000 in
theorem k_X11_odds_76 {ω : XO} (hω : ω.2.2.2.1 = 1) {κ : XK} (X : XC ω rm_X11_odds 7 κ cX11_odds "SignalBlind") {L : List Nat} {q : Nat → Nat} {h' : hp} {r : Int64} (R : XRet ω rm_X11_odds κ (some .long) L q h' (some (.long r))) (k51 : hp → Int32 → Int32 → Int32 → Int32 → Int32 → Option (hp × Int64)) (hk51 : ∀ (h : hp) (a15 : Int32) (a16 : Int32) (a17 : Int32) (a18 : Int32) (a19 : Int32), k51 h a15 a16 a17 a18 a19 = some (h', r) → XG ω rm_X11_odds 7 κ L q h 0 0 51 [(0, .ref (q 0)), (2, .int a15), (3, .int a16), (4, .int a17), (5, .int a18), (6, .int a19)] []) : ∀ (h : hp) (a25 : Int32) (a26 : Int32) (a27 : Int32) (a28 : Int32) (a29 : Int32), f_X11_odds_76 k51 h a25 a26 a27 a28 a29 = some (h', r) → XG ω rm_X11_odds 7 κ L q h 0 0 76 [(0, .ref (q 0)), (2, .int a25), (3, .int a26), (4, .int a27), (5, .int a28), (6, .int a29)] [] := by
  intro h a25 a26 a27 a28 a29 hf
  unfold f_X11_odds_76 at hf
  obtain ⟨v30, ev30, hf⟩ := nm_some hf
  refine x_iincN X (v := 1) ev30 [(6, .int v30), (0, .ref (q 0)), (2, .int a25), (3, .int a26), (4, .int a27), (5, .int a28)] dX11_odds_76 5 rfl (by decide) (Nat.le_of_ble_eq_true rfl) rfl ?_
  refine x_goto X 51 dX11_odds_79 (by decide) ?_
  refine x_lv [1, 2, 3, 4, 5, 0] rfl ?_
  exact hk51 h _ _ _ _ _ hf
set_option maxRecDepth 100000 in
set_option maxHeartbeats 4000000 in
theorem k_X11_odds_51 {ω : XO} (hω : ω.2.2.2.1 = 1) {κ : XK} (X : XC ω rm_X11_odds 7 κ cX11_odds "SignalBlind") {L : List Nat} {q : Nat → Nat} {h' : hp} {r : Int64} (R : XRet ω rm_X11_odds κ (some .long) L q h' (some (.long r))) : ∀ (n : Nat) (h : hp) (a15 : Int32) (a16 : Int32) (a17 : Int32) (a18 : Int32) (a19 : Int32), f_X11_odds_51 n h a15 a16 a17 a18 a19 = some (h', r) → XG ω rm_X11_odds 7 κ L q h 0 0 51 [(0, .ref (q 0)), (2, .int a15), (3, .int a16), (4, .int a17), (5, .int a18), (6, .int a19)] [] := by
  intro n
  induction n with
  | zero =>
    intro h a15 a16 a17 a18 a19 hf
    have hf : (none : Option (hp × Int64)) = some (h', r) := hf
    cases hf
  | succ n ih =>
    intro h a15 a16 a17 a18 a19 hf
    rw [f_X11_odds_51] at hf
    refine x_iload X dX11_odds_51 5 rfl ?_
    refine x_bipush X (v := 10) dX11_odds_53 (by decide) ?_
    refine x_icmp_ge X 82 dX11_odds_55 (by decide) (fun c20 => ?_) (fun c20 => ?_)
    · replace hf := (if_pos c20).symm.trans hf
      refine x_aload_n X dX11_odds_58 0 rfl rfl ?_
      refine x_iload X dX11_odds_59 3 rfl ?_
      refine x_iconst X (v := 1) dX11_odds_61 (by decide) ?_
      refine x_iload X dX11_odds_62 5 rfl ?_
      refine x_ishl X dX11_odds_64 ?_
      refine x_ixor X dX11_odds_65 ?_
      obtain ⟨r21, g22, hf⟩ := bnr_some hf
      refine c_X11_140 X hω g22 (hR := ⟨Nat.le_of_ble_eq_true rfl, Nat.le_of_ble_eq_true rfl⟩) ⟨Nat.zero_le _, Nat.zero_le _⟩ (Nat.le_of_ble_eq_true rfl) dX11_odds_66 ?_
      refine x_iload_n X dX11_odds_69 1 rfl rfl ?_
      refine x_icmp_ne X 76 dX11_odds_70 (by decide) (fun c23 => ?_) (fun c23 => ?_)
      · replace hf := (if_pos c23).symm.trans hf
        obtain ⟨v24, ev24, hf⟩ := nm_some hf
        refine x_iincN X (v := 1) ev24 [(5, .int v24), (0, .ref (q 0)), (2, .int a15), (3, .int a16), (4, .int a17), (6, .int a19)] dX11_odds_73 4 rfl (by decide) (Nat.le_of_ble_eq_true rfl) rfl ?_
        refine x_lv [1, 2, 3, 4, 0, 5] rfl ?_
        exact k_X11_odds_76 hω X R _ ih h _ _ _ _ _ hf
      · replace hf := (if_neg c23).symm.trans hf
        refine x_lv [0, 1, 2, 3, 4, 5] rfl ?_
        exact k_X11_odds_76 hω X R _ ih h _ _ _ _ _ hf
    · replace hf := (if_neg c20).symm.trans hf
      refine x_iload X dX11_odds_82 4 rfl ?_
      refine x_bipush X (v := 10) dX11_odds_84 (by decide) ?_
      refine x_iload_n X dX11_odds_86 2 rfl rfl ?_
      obtain ⟨r31, g32, hf⟩ := bnr_some hf
      refine c_X11_197 X hω g32 (hR := ⟨Nat.le_of_ble_eq_true rfl, Nat.le_of_ble_eq_true rfl⟩) ⟨Nat.zero_le _, Nat.zero_le _⟩ (Nat.le_of_ble_eq_true rfl) dX11_odds_87 ?_
      exact x_retSL X R hf dX11_odds_90
set_option maxRecDepth 100000 in
set_option maxHeartbeats 4000000 in
theorem k_X11_odds {ω : XO} (hω : ω.2.2.2.1 = 1) {L : List Nat} {q : Nat → Nat} {h h' : hp} {p0 : Int32} {p1 : Int32} {p2 : Int32} {r : Int64} (hf : f_X11_odds h p0 p1 p2 = some (h', r)) : XM ω yX11_odds cX11_odds 7 (some .long) rm_X11_odds L q h [.ref (q 0), .int p0, .int p1, .int p2] (some (.long r)) h' := by
  refine XM_intro [(0, .ref (q 0)), (1, .int p0), (2, .int p1), (3, .int p2)] "SignalBlind" (by decide) rfl rfl (Nat.le_of_ble_eq_true rfl) (fun κ X R => ?_)
  unfold f_X11_odds at hf
  refine x_aload_n X dX11_odds_0 0 rfl rfl ?_
  refine x_iload_n X dX11_odds_1 1 rfl rfl ?_
  obtain ⟨r1, g2, hf⟩ := bnr_some hf
  refine c_X11_112 X hω g2 (hR := ⟨Nat.le_of_ble_eq_true rfl, Nat.le_of_ble_eq_true rfl⟩) ⟨Nat.zero_le _, Nat.zero_le _⟩ (Nat.le_of_ble_eq_true rfl) dX11_odds_2 ?_
  refine x_if_eq X 23 dX11_odds_5 (by decide) (fun c3 => ?_) (fun c3 => ?_)
  · replace hf := (if_pos c3).symm.trans hf
    refine x_lv [] rfl ?_
    exact k_X11_odds_23 hω X R h hf
  · replace hf := (if_neg c3).symm.trans hf
    refine x_aload_n X dX11_odds_8 0 rfl rfl ?_
    refine x_iload_n X dX11_odds_9 2 rfl rfl ?_
    obtain ⟨r4, g5, hf⟩ := bnr_some hf
    refine c_X11_88 X hω g5 (hR := ⟨Nat.le_of_ble_eq_true rfl, Nat.le_of_ble_eq_true rfl⟩) ⟨Nat.zero_le _, Nat.zero_le _⟩ (Nat.le_of_ble_eq_true rfl) dX11_odds_10 ?_
    refine x_if_eq X 23 dX11_odds_13 (by decide) (fun c6 => ?_) (fun c6 => ?_)
    · replace hf := (if_pos c6).symm.trans hf
      refine x_lv [] rfl ?_
      exact k_X11_odds_23 hω X R h hf
    · replace hf := (if_neg c6).symm.trans hf
      refine x_iload_n X dX11_odds_16 3 rfl rfl ?_
      obtain ⟨r7, g8, hf⟩ := bnr_some hf
      refine c_X11_172 X hω g8 (hR := ⟨Nat.le_of_ble_eq_true rfl, Nat.le_of_ble_eq_true rfl⟩) ⟨Nat.zero_le _, Nat.zero_le _⟩ (Nat.le_of_ble_eq_true rfl) dX11_odds_17 ?_
      refine x_if_ne X 27 dX11_odds_20 (by decide) (fun c9 => ?_) (fun c9 => ?_)
      · replace hf := (if_pos c9).symm.trans hf
        refine x_lv [] rfl ?_
        exact k_X11_odds_23 hω X R h hf
      · replace hf := (if_neg c9).symm.trans hf
        refine x_aload_n X dX11_odds_27 0 rfl rfl ?_
        refine x_iload_n X dX11_odds_28 1 rfl rfl ?_
        refine x_aload_n X dX11_odds_29 0 rfl rfl ?_
        refine x_getsj X (i := 0) 1 fl_X11_14_12 (sdX_0 hω) (ks_0 _) rfl (j := 1) rfl dX11_odds_30 ?_
        refine x_getsj X (i := 1) 1 fl_X11_77_4 (sdX_1 hω) (ks_1 _) rfl (j := 2) rfl dX11_odds_33 ?_
        refine x_iload_n X dX11_odds_36 2 rfl rfl ?_
        obtain ⟨r10, g11, hf⟩ := bnr_some hf
        refine c_X11_91 X hω g11 (sdX_2 hω) (ks_2 _) (hR := ⟨Nat.le_of_ble_eq_true rfl, Nat.le_of_ble_eq_true rfl⟩) ⟨Nat.zero_le _, Nat.zero_le _⟩ (Nat.le_of_ble_eq_true rfl) dX11_odds_37 ?_
        obtain ⟨h12, r13, g14, hf⟩ := bnd_some hf
        refine c_X11_136 X hω g14 (hR := ⟨Nat.le_of_ble_eq_true rfl, Nat.le_of_ble_eq_true rfl⟩) ⟨Nat.zero_le _, Nat.zero_le _⟩ (Nat.le_of_ble_eq_true rfl) dX11_odds_40 ?_
        refine x_istore X [(4, .int r13), (0, .ref (q 0)), (1, .int p0), (2, .int p1), (3, .int p2)] dX11_odds_43 (Nat.le_of_ble_eq_true rfl) rfl ?_
        refine x_iconst X (v := 0) dX11_odds_45 (by decide) ?_
        refine x_istore X [(5, .int (0 : Int32)), (4, .int r13), (0, .ref (q 0)), (1, .int p0), (2, .int p1), (3, .int p2)] dX11_odds_46 (Nat.le_of_ble_eq_true rfl) rfl ?_
        refine x_iconst X (v := 0) dX11_odds_48 (by decide) ?_
        refine x_istore X [(6, .int (0 : Int32)), (5, .int (0 : Int32)), (4, .int r13), (0, .ref (q 0)), (1, .int p0), (2, .int p1), (3, .int p2)] dX11_odds_49 (Nat.le_of_ble_eq_true rfl) rfl ?_
        refine x_lv [3, 5, 6, 2, 1, 0] rfl ?_
        exact k_X11_odds_51 hω X R _ h12 _ _ _ _ _ hf
theorem mt_X11_odds : MT yX11_odds cX11_odds 7 (some .long) "SignalBlind" 3 := ⟨(mT_3 230 rfl rfl), (mT_3 231 rfl rfl), (mT_1 1 rfl rfl), (mT_3 232 rfl rfl), by decide⟩

abbrev rm_X11_mean : Room := { frames := 1, cells := 0, slots := 0, locals := 24 }
def f_X11_mean_20 (h : hp) : Option Int64 := (some (-9223372036854775808 : Int64))
def f_X11_mean_28 (h : hp) : Nat → Int32 → Int32 → Int32 → Option Int64
  | 0, _, _, _ => none
  | n + 1, a5, a6, a7 => (if a7 < (hI h 2 1) then
 (bnr (f_X2_get h 2 a7) fun r9 =>
 (bnr (f_J6_bitCount_0f7a4 h r9) fun r11 =>
 (nm (a6 + r11) fun v13 =>
 (nm (a7 + (1 : Int32)) fun v14 =>
 ((f_X11_mean_28 h n) a5 v13 v14)))))
 else
 (bnr (f_X11_lowest h a6 (hI h 2 1) a5) fun r15 =>
 (some r15)))
def f_X11_mean (h : hp) (p0 : Int32) : Option Int64 := (bnr (f_X11_isPart h p0) fun r1 =>
 (if r1 = 0 then
 (f_X11_mean_20 h)
 else
 (if (hI h 2 1) = 0 then
 (f_X11_mean_20 h)
 else
 (f_X11_mean_28 h 2000 p0 (0 : Int32) (0 : Int32)))))
set_option maxRecDepth 100000 in
set_option maxHeartbeats 4000000 in
theorem k_X11_mean_20 {ω : XO} (hω : ω.2.2.2.1 = 1) {κ : XK} (X : XC ω rm_X11_mean 4 κ cX11_mean "SignalBlind") {L : List Nat} {q : Nat → Nat} {h : hp} {r : Int64} (R : XRet ω rm_X11_mean κ (some .long) L q h (some (.long r))) : f_X11_mean_20 h = some r → XG ω rm_X11_mean 4 κ L q h 0 0 20 [] [] := by
  intro  hf
  unfold f_X11_mean_20 at hf
  refine x_ldc2 X (v := -9223372036854775808) (mT_3 233 rfl rfl) dX11_mean_20 ?_
  exact x_retRL X R hf dX11_mean_23
set_option maxRecDepth 100000 in
set_option maxHeartbeats 4000000 in
theorem k_X11_mean_28 {ω : XO} (hω : ω.2.2.2.1 = 1) {κ : XK} (X : XC ω rm_X11_mean 4 κ cX11_mean "SignalBlind") {L : List Nat} {q : Nat → Nat} {h : hp} {r : Int64} (R : XRet ω rm_X11_mean κ (some .long) L q h (some (.long r))) : ∀ (n : Nat) (a5 : Int32) (a6 : Int32) (a7 : Int32), f_X11_mean_28 h n a5 a6 a7 = some r → XG ω rm_X11_mean 4 κ L q h 0 0 28 [(0, .ref (q 0)), (1, .int a5), (2, .int a6), (3, .int a7)] [] := by
  intro n
  induction n with
  | zero =>
    intro a5 a6 a7 hf
    have hf : (none : Option Int64) = some r := hf
    cases hf
  | succ n ih =>
    intro a5 a6 a7 hf
    rw [f_X11_mean_28] at hf
    refine x_iload_n X dX11_mean_28 3 rfl rfl ?_
    refine x_aload_n X dX11_mean_29 0 rfl rfl ?_
    refine x_getsj X (i := 0) 1 fl_X11_14_12 (sdX_0 hω) (ks_0 _) rfl (j := 1) rfl dX11_mean_30 ?_
    refine x_getsj X (i := 1) 1 fl_X11_77_4 (sdX_1 hω) (ks_1 _) rfl (j := 2) rfl dX11_mean_33 ?_
    refine x_geti X (i := 2) fl_X11_179_3 (sdX_2 hω) (ks_2 _) rfl dX11_mean_36 ?_
    refine x_icmp_ge X 65 dX11_mean_39 (by decide) (fun c8 => ?_) (fun c8 => ?_)
    · replace hf := (if_pos c8).symm.trans hf
      refine x_iload_n X dX11_mean_42 2 rfl rfl ?_
      refine x_aload_n X dX11_mean_43 0 rfl rfl ?_
      refine x_getsj X (i := 0) 1 fl_X11_14_12 (sdX_0 hω) (ks_0 _) rfl (j := 1) rfl dX11_mean_44 ?_
      refine x_getsj X (i := 1) 1 fl_X11_77_4 (sdX_1 hω) (ks_1 _) rfl (j := 2) rfl dX11_mean_47 ?_
      refine x_iload_n X dX11_mean_50 3 rfl rfl ?_
      obtain ⟨r9, g10, hf⟩ := bnr_some hf
      refine c_X11_91 X hω g10 (sdX_2 hω) (ks_2 _) (hR := ⟨Nat.le_of_ble_eq_true rfl, Nat.le_of_ble_eq_true rfl⟩) ⟨Nat.zero_le _, Nat.zero_le _⟩ (Nat.le_of_ble_eq_true rfl) dX11_mean_51 ?_
      obtain ⟨r11, g12, hf⟩ := bnr_some hf
      refine c_X11_201 X hω g12 (hR := ⟨Nat.le_of_ble_eq_true rfl, Nat.le_of_ble_eq_true rfl⟩) ⟨Nat.zero_le _, Nat.zero_le _⟩ (Nat.le_of_ble_eq_true rfl) dX11_mean_54 ?_
      refine x_iadd X dX11_mean_57 ?_
      obtain ⟨v13, ev13, hf⟩ := nm_some hf
      refine x_nmI ev13 ?_
      refine x_istore_n X [(2, .int v13), (0, .ref (q 0)), (1, .int a5), (3, .int a7)] dX11_mean_58 rfl (Nat.le_of_ble_eq_true rfl) rfl ?_
      obtain ⟨v14, ev14, hf⟩ := nm_some hf
      refine x_iincN X (v := 1) ev14 [(3, .int v14), (2, .int v13), (0, .ref (q 0)), (1, .int a5)] dX11_mean_59 3 rfl (by decide) (Nat.le_of_ble_eq_true rfl) rfl ?_
      refine x_goto X 28 dX11_mean_62 (by decide) ?_
      refine x_lv [2, 3, 1, 0] rfl ?_
      exact ih _ _ _ hf
    · replace hf := (if_neg c8).symm.trans hf
      refine x_iload_n X dX11_mean_65 2 rfl rfl ?_
      refine x_aload_n X dX11_mean_66 0 rfl rfl ?_
      refine x_getsj X (i := 0) 1 fl_X11_14_12 (sdX_0 hω) (ks_0 _) rfl (j := 1) rfl dX11_mean_67 ?_
      refine x_getsj X (i := 1) 1 fl_X11_77_4 (sdX_1 hω) (ks_1 _) rfl (j := 2) rfl dX11_mean_70 ?_
      refine x_geti X (i := 2) fl_X11_179_3 (sdX_2 hω) (ks_2 _) rfl dX11_mean_73 ?_
      refine x_iload_n X dX11_mean_76 1 rfl rfl ?_
      obtain ⟨r15, g16, hf⟩ := bnr_some hf
      refine c_X11_197 X hω g16 (hR := ⟨Nat.le_of_ble_eq_true rfl, Nat.le_of_ble_eq_true rfl⟩) ⟨Nat.zero_le _, Nat.zero_le _⟩ (Nat.le_of_ble_eq_true rfl) dX11_mean_77 ?_
      exact x_retRL X R hf dX11_mean_80
set_option maxRecDepth 100000 in
set_option maxHeartbeats 4000000 in
theorem k_X11_mean {ω : XO} (hω : ω.2.2.2.1 = 1) {L : List Nat} {q : Nat → Nat} {h : hp} {p0 : Int32} {r : Int64} (hf : f_X11_mean h p0 = some r) : XM ω yX11_mean cX11_mean 4 (some .long) rm_X11_mean L q h [.ref (q 0), .int p0] (some (.long r)) h := by
  refine XM_intro [(0, .ref (q 0)), (1, .int p0)] "SignalBlind" (by decide) rfl rfl (Nat.le_of_ble_eq_true rfl) (fun κ X R => ?_)
  unfold f_X11_mean at hf
  refine x_iload_n X dX11_mean_0 1 rfl rfl ?_
  obtain ⟨r1, g2, hf⟩ := bnr_some hf
  refine c_X11_172 X hω g2 (hR := ⟨Nat.le_of_ble_eq_true rfl, Nat.le_of_ble_eq_true rfl⟩) ⟨Nat.zero_le _, Nat.zero_le _⟩ (Nat.le_of_ble_eq_true rfl) dX11_mean_1 ?_
  refine x_if_eq X 20 dX11_mean_4 (by decide) (fun c3 => ?_) (fun c3 => ?_)
  · replace hf := (if_pos c3).symm.trans hf
    refine x_lv [] rfl ?_
    exact k_X11_mean_20 hω X R  hf
  · replace hf := (if_neg c3).symm.trans hf
    refine x_aload_n X dX11_mean_7 0 rfl rfl ?_
    refine x_getsj X (i := 0) 1 fl_X11_14_12 (sdX_0 hω) (ks_0 _) rfl (j := 1) rfl dX11_mean_8 ?_
    refine x_getsj X (i := 1) 1 fl_X11_77_4 (sdX_1 hω) (ks_1 _) rfl (j := 2) rfl dX11_mean_11 ?_
    refine x_geti X (i := 2) fl_X11_179_3 (sdX_2 hω) (ks_2 _) rfl dX11_mean_14 ?_
    refine x_if_ne X 24 dX11_mean_17 (by decide) (fun c4 => ?_) (fun c4 => ?_)
    · replace hf := (if_pos c4).symm.trans hf
      refine x_lv [] rfl ?_
      exact k_X11_mean_20 hω X R  hf
    · replace hf := (if_neg c4).symm.trans hf
      refine x_iconst X (v := 0) dX11_mean_24 (by decide) ?_
      refine x_istore_n X [(2, .int (0 : Int32)), (0, .ref (q 0)), (1, .int p0)] dX11_mean_25 rfl (Nat.le_of_ble_eq_true rfl) rfl ?_
      refine x_iconst X (v := 0) dX11_mean_26 (by decide) ?_
      refine x_istore_n X [(3, .int (0 : Int32)), (2, .int (0 : Int32)), (0, .ref (q 0)), (1, .int p0)] dX11_mean_27 rfl (Nat.le_of_ble_eq_true rfl) rfl ?_
      refine x_lv [2, 3, 1, 0] rfl ?_
      exact k_X11_mean_28 hω X R _ _ _ _ hf
theorem mt_X11_mean : MT yX11_mean cX11_mean 4 (some .long) "SignalBlind" 1 := ⟨(mT_3 238 rfl rfl), (mT_3 239 rfl rfl), (mT_1 1 rfl rfl), (mT_4 0 rfl rfl), by decide⟩

abbrev rm_X11_relay : Room := { frames := 1, cells := 0, slots := 0, locals := 21 }
def f_X11_relay_61 (h : hp) (a12 : Int32) : Option (hp × Int32) := (some (h, a12))
def f_X11_relay_32 (h : hp) (a5 : Int32) : Option (hp × Int32) := (bnr (f_X2_isFull h 9) fun r6 =>
 (if r6 = 0 then
 (bnd (f_X2_add h 9 a5) fun h9 r10 =>
 (f_X11_relay_61 h9 r10))
 else
 (f_X11_relay_61 h (-4 : Int32))))
def f_X11_relay (h : hp) (p0 : Int32) : Option (hp × Int32) := (if p0 = (-1 : Int32) then
 (bnd (f_X2_clear h 9) fun h2 _ =>
 (some (h2, (0 : Int32))))
 else
 (if p0 = (5 : Int32) then
 (f_X11_relay_32 h p0)
 else
 (bnr (f_X11_isSender h p0) fun r13 =>
 (if r13 = 0 then
 (some (h, (-1 : Int32)))
 else
 (f_X11_relay_32 h p0)))))
set_option maxRecDepth 100000 in
set_option maxHeartbeats 4000000 in
theorem k_X11_relay_61 {ω : XO} (hω : ω.2.2.2.1 = 1) {κ : XK} (X : XC ω rm_X11_relay 2 κ cX11_relay "SignalBlind") {L : List Nat} {q : Nat → Nat} {h' : hp} {r : Int32} (R : XRet ω rm_X11_relay κ (some .int) L q h' (some (.int r))) : ∀ (h : hp) (a12 : Int32), f_X11_relay_61 h a12 = some (h', r) → XG ω rm_X11_relay 2 κ L q h 0 0 61 [] [.int a12] := by
  intro h a12 hf
  unfold f_X11_relay_61 at hf
  exact x_retSI X R hf dX11_relay_61
set_option maxRecDepth 100000 in
set_option maxHeartbeats 4000000 in
theorem k_X11_relay_32 {ω : XO} (hω : ω.2.2.2.1 = 1) {κ : XK} (X : XC ω rm_X11_relay 2 κ cX11_relay "SignalBlind") {L : List Nat} {q : Nat → Nat} {h' : hp} {r : Int32} (R : XRet ω rm_X11_relay κ (some .int) L q h' (some (.int r))) : ∀ (h : hp) (a5 : Int32), f_X11_relay_32 h a5 = some (h', r) → XG ω rm_X11_relay 2 κ L q h 0 0 32 [(0, .ref (q 0)), (1, .int a5)] [] := by
  intro h a5 hf
  unfold f_X11_relay_32 at hf
  refine x_aload_n X dX11_relay_32 0 rfl rfl ?_
  refine x_getsj X (i := 0) 1 fl_X11_14_12 (sdX_0 hω) (ks_0 _) rfl (j := 1) rfl dX11_relay_33 ?_
  refine x_getsj X (i := 1) 8 fl_X11_206_4 (sdX_1 hω) (ks_1 _) rfl (j := 9) rfl dX11_relay_36 ?_
  obtain ⟨r6, g7, hf⟩ := bnr_some hf
  refine c_X11_80 X hω g7 (sdX_9 hω) (ks_9 _) (hR := ⟨Nat.le_of_ble_eq_true rfl, Nat.le_of_ble_eq_true rfl⟩) ⟨Nat.zero_le _, Nat.zero_le _⟩ (Nat.le_of_ble_eq_true rfl) dX11_relay_39 ?_
  refine x_if_eq X 50 dX11_relay_42 (by decide) (fun c8 => ?_) (fun c8 => ?_)
  · replace hf := (if_pos c8).symm.trans hf
    refine x_aload_n X dX11_relay_50 0 rfl rfl ?_
    refine x_getsj X (i := 0) 1 fl_X11_14_12 (sdX_0 hω) (ks_0 _) rfl (j := 1) rfl dX11_relay_51 ?_
    refine x_getsj X (i := 1) 8 fl_X11_206_4 (sdX_1 hω) (ks_1 _) rfl (j := 9) rfl dX11_relay_54 ?_
    refine x_iload_n X dX11_relay_57 1 rfl rfl ?_
    obtain ⟨h9, r10, g11, hf⟩ := bnd_some hf
    refine c_X11_84 X hω g11 (sdX_9 hω) (ks_9 _) (hR := ⟨Nat.le_of_ble_eq_true rfl, Nat.le_of_ble_eq_true rfl⟩) ⟨Nat.zero_le _, Nat.zero_le _⟩ (Nat.le_of_ble_eq_true rfl) dX11_relay_58 ?_
    refine x_lv [] rfl ?_
    exact k_X11_relay_61 hω X R h9 _ hf
  · replace hf := (if_neg c8).symm.trans hf
    refine x_bipush X (v := -4) dX11_relay_45 (by decide) ?_
    refine x_goto X 61 dX11_relay_47 (by decide) ?_
    refine x_lv [] rfl ?_
    exact k_X11_relay_61 hω X R h _ hf
set_option maxRecDepth 100000 in
set_option maxHeartbeats 4000000 in
theorem k_X11_relay {ω : XO} (hω : ω.2.2.2.1 = 1) {L : List Nat} {q : Nat → Nat} {h h' : hp} {p0 : Int32} {r : Int32} (hf : f_X11_relay h p0 = some (h', r)) : XM ω yX11_relay cX11_relay 2 (some .int) rm_X11_relay L q h [.ref (q 0), .int p0] (some (.int r)) h' := by
  refine XM_intro [(0, .ref (q 0)), (1, .int p0)] "SignalBlind" (by decide) rfl rfl (Nat.le_of_ble_eq_true rfl) (fun κ X R => ?_)
  unfold f_X11_relay at hf
  refine x_iload_n X dX11_relay_0 1 rfl rfl ?_
  refine x_iconst X (v := -1) dX11_relay_1 (by decide) ?_
  refine x_icmp_ne X 17 dX11_relay_2 (by decide) (fun c1 => ?_) (fun c1 => ?_)
  · replace hf := (if_pos c1).symm.trans hf
    refine x_aload_n X dX11_relay_5 0 rfl rfl ?_
    refine x_getsj X (i := 0) 1 fl_X11_14_12 (sdX_0 hω) (ks_0 _) rfl (j := 1) rfl dX11_relay_6 ?_
    refine x_getsj X (i := 1) 8 fl_X11_206_4 (sdX_1 hω) (ks_1 _) rfl (j := 9) rfl dX11_relay_9 ?_
    obtain ⟨h2, uh2, g3, hf⟩ := bnd_some hf
    refine c_X11_152 X hω g3 (sdX_9 hω) (ks_9 _) (hR := ⟨Nat.le_of_ble_eq_true rfl, Nat.le_of_ble_eq_true rfl⟩) ⟨Nat.zero_le _, Nat.zero_le _⟩ (Nat.le_of_ble_eq_true rfl) dX11_relay_12 ?_
    refine x_iconst X (v := 0) dX11_relay_15 (by decide) ?_
    exact x_retSI X R hf dX11_relay_16
  · replace hf := (if_neg c1).symm.trans hf
    refine x_iload_n X dX11_relay_17 1 rfl rfl ?_
    refine x_iconst X (v := 5) dX11_relay_18 (by decide) ?_
    refine x_icmp_eq X 32 dX11_relay_19 (by decide) (fun c4 => ?_) (fun c4 => ?_)
    · replace hf := (if_pos c4).symm.trans hf
      refine x_lv [0, 1] rfl ?_
      exact k_X11_relay_32 hω X R h _ hf
    · replace hf := (if_neg c4).symm.trans hf
      refine x_aload_n X dX11_relay_22 0 rfl rfl ?_
      refine x_iload_n X dX11_relay_23 1 rfl rfl ?_
      obtain ⟨r13, g14, hf⟩ := bnr_some hf
      refine c_X11_112 X hω g14 (hR := ⟨Nat.le_of_ble_eq_true rfl, Nat.le_of_ble_eq_true rfl⟩) ⟨Nat.zero_le _, Nat.zero_le _⟩ (Nat.le_of_ble_eq_true rfl) dX11_relay_24 ?_
      refine x_if_ne X 32 dX11_relay_27 (by decide) (fun c15 => ?_) (fun c15 => ?_)
      · replace hf := (if_pos c15).symm.trans hf
        refine x_iconst X (v := -1) dX11_relay_30 (by decide) ?_
        exact x_retSI X R hf dX11_relay_31
      · replace hf := (if_neg c15).symm.trans hf
        refine x_lv [0, 1] rfl ?_
        exact k_X11_relay_32 hω X R h _ hf
theorem mt_X11_relay : MT yX11_relay cX11_relay 2 (some .int) "SignalBlind" 1 := ⟨(mT_4 2 rfl rfl), (mT_4 3 rfl rfl), (mT_1 1 rfl rfl), (mT_4 4 rfl rfl), by decide⟩

abbrev rm_X11_ends : Room := { frames := 4, cells := 0, slots := 0, locals := 102 }
def f_X11_ends_15 (h : hp) : Option (hp × Int32) := (some (h, (-1 : Int32)))
def f_X11_ends_114 (k41 : hp → Int32 → Int32 → Int32 → Int32 → Option (hp × Int32)) (h : hp) (a19 : Int32) (a20 : Int32) (a21 : Int32) (a22 : Int32) : Option (hp × Int32) := (nm (a22 + (1 : Int32)) fun v23 =>
 (k41 h a19 a20 a21 v23))
def f_X11_ends_133 (h : hp) (a34 : Int32) : Option (hp × Int32) := (some (h, a34))
def f_X11_ends_41 : Nat → hp → Int32 → Int32 → Int32 → Int32 → Option (hp × Int32)
  | 0, _, _, _, _, _ => none
  | n + 1, h, a10, a11, a12, a13 => (if a13 < (hI h 9 1) then
 (bnr (f_X2_get h 9 a13) fun r15 =>
 (if r15 = (5 : Int32) then
 (nm (a12 + (1 : Int32)) fun v18 =>
 (f_X11_ends_114 (f_X11_ends_41 n) h a10 a11 v18 a13))
 else
 (bnr (f_X11_isSender h r15) fun r24 =>
 (if r24 = 0 then
 (f_X11_ends_114 (f_X11_ends_41 n) h a10 a11 a12 a13)
 else
 (chk r15 5
 (onO (aR h 4 (r15).toNatClampNeg) none fun i28 =>
 (ckS h i28
 (bnd (f_X11_shown h r15 (hI h i28 2) a12 a11) fun h30 r31 =>
 (f_X11_ends_114 (f_X11_ends_41 n) h30 a10 r31 a12 a13)))))))))
 else
 (if a10 = 0 then
 (f_X11_ends_133 h a11)
 else
 (bnr (f_X11_readAs h a11) fun r35 =>
 (f_X11_ends_133 h r35))))
def f_X11_ends (h : hp) (p0 : Int32) (p1 : Int32) : Option (hp × Int32) := (bnr (f_X11_isWord h p0) fun r1 =>
 (if r1 = 0 then
 (f_X11_ends_15 h)
 else
 (bnr (f_X11_isPart h p1) fun r4 =>
 (if r4 = 0 then
 (f_X11_ends_15 h)
 else
 (bnr (f_X2_get h 2 p0) fun r7 =>
 (nm (hI h 1 5) fun v9 =>
 (f_X11_ends_41 2000 h p1 r7 v9 (0 : Int32))))))))
set_option maxRecDepth 100000 in
set_option maxHeartbeats 4000000 in
theorem k_X11_ends_15 {ω : XO} (hω : ω.2.2.2.1 = 1) {κ : XK} (X : XC ω rm_X11_ends 7 κ cX11_ends "SignalBlind") {L : List Nat} {q : Nat → Nat} {h' : hp} {r : Int32} (R : XRet ω rm_X11_ends κ (some .int) L q h' (some (.int r))) : ∀ (h : hp), f_X11_ends_15 h = some (h', r) → XG ω rm_X11_ends 7 κ L q h 0 0 15 [] [] := by
  intro h hf
  unfold f_X11_ends_15 at hf
  refine x_iconst X (v := -1) dX11_ends_15 (by decide) ?_
  exact x_retSI X R hf dX11_ends_16
set_option maxRecDepth 100000 in
set_option maxHeartbeats 4000000 in
theorem k_X11_ends_114 {ω : XO} (hω : ω.2.2.2.1 = 1) {κ : XK} (X : XC ω rm_X11_ends 7 κ cX11_ends "SignalBlind") {L : List Nat} {q : Nat → Nat} {h' : hp} {r : Int32} (R : XRet ω rm_X11_ends κ (some .int) L q h' (some (.int r))) (k41 : hp → Int32 → Int32 → Int32 → Int32 → Option (hp × Int32)) (hk41 : ∀ (h : hp) (a10 : Int32) (a11 : Int32) (a12 : Int32) (a13 : Int32), k41 h a10 a11 a12 a13 = some (h', r) → XG ω rm_X11_ends 7 κ L q h 0 0 41 [(0, .ref (q 0)), (2, .int a10), (3, .int a11), (4, .int a12), (5, .int a13)] []) : ∀ (h : hp) (a19 : Int32) (a20 : Int32) (a21 : Int32) (a22 : Int32), f_X11_ends_114 k41 h a19 a20 a21 a22 = some (h', r) → XG ω rm_X11_ends 7 κ L q h 0 0 114 [(0, .ref (q 0)), (2, .int a19), (3, .int a20), (4, .int a21), (5, .int a22)] [] := by
  intro h a19 a20 a21 a22 hf
  unfold f_X11_ends_114 at hf
  obtain ⟨v23, ev23, hf⟩ := nm_some hf
  refine x_iincN X (v := 1) ev23 [(5, .int v23), (0, .ref (q 0)), (2, .int a19), (3, .int a20), (4, .int a21)] dX11_ends_114 4 rfl (by decide) (Nat.le_of_ble_eq_true rfl) rfl ?_
  refine x_goto X 41 dX11_ends_117 (by decide) ?_
  refine x_lv [1, 2, 3, 4, 0] rfl ?_
  exact hk41 h _ _ _ _ hf
set_option maxRecDepth 100000 in
set_option maxHeartbeats 4000000 in
theorem k_X11_ends_133 {ω : XO} (hω : ω.2.2.2.1 = 1) {κ : XK} (X : XC ω rm_X11_ends 7 κ cX11_ends "SignalBlind") {L : List Nat} {q : Nat → Nat} {h' : hp} {r : Int32} (R : XRet ω rm_X11_ends κ (some .int) L q h' (some (.int r))) : ∀ (h : hp) (a34 : Int32), f_X11_ends_133 h a34 = some (h', r) → XG ω rm_X11_ends 7 κ L q h 0 0 133 [] [.int a34] := by
  intro h a34 hf
  unfold f_X11_ends_133 at hf
  exact x_retSI X R hf dX11_ends_133
set_option maxRecDepth 100000 in
set_option maxHeartbeats 4000000 in
theorem k_X11_ends_41 {ω : XO} (hω : ω.2.2.2.1 = 1) {κ : XK} (X : XC ω rm_X11_ends 7 κ cX11_ends "SignalBlind") {L : List Nat} {q : Nat → Nat} {h' : hp} {r : Int32} (R : XRet ω rm_X11_ends κ (some .int) L q h' (some (.int r))) : ∀ (n : Nat) (h : hp) (a10 : Int32) (a11 : Int32) (a12 : Int32) (a13 : Int32), f_X11_ends_41 n h a10 a11 a12 a13 = some (h', r) → XG ω rm_X11_ends 7 κ L q h 0 0 41 [(0, .ref (q 0)), (2, .int a10), (3, .int a11), (4, .int a12), (5, .int a13)] [] := by
  intro n
  induction n with
  | zero =>
    intro h a10 a11 a12 a13 hf
    have hf : (none : Option (hp × Int32)) = some (h', r) := hf
    cases hf
  | succ n ih =>
    intro h a10 a11 a12 a13 hf
    rw [f_X11_ends_41] at hf
    refine x_iload X dX11_ends_41 4 rfl ?_
    refine x_aload_n X dX11_ends_43 0 rfl rfl ?_
    refine x_getsj X (i := 0) 1 fl_X11_14_12 (sdX_0 hω) (ks_0 _) rfl (j := 1) rfl dX11_ends_44 ?_
    refine x_getsj X (i := 1) 8 fl_X11_206_4 (sdX_1 hω) (ks_1 _) rfl (j := 9) rfl dX11_ends_47 ?_
    refine x_geti X (i := 9) fl_X11_179_3 (sdX_9 hω) (ks_9 _) rfl dX11_ends_50 ?_
    refine x_icmp_ge X 120 dX11_ends_53 (by decide) (fun c14 => ?_) (fun c14 => ?_)
    · replace hf := (if_pos c14).symm.trans hf
      refine x_aload_n X dX11_ends_56 0 rfl rfl ?_
      refine x_getsj X (i := 0) 1 fl_X11_14_12 (sdX_0 hω) (ks_0 _) rfl (j := 1) rfl dX11_ends_57 ?_
      refine x_getsj X (i := 1) 8 fl_X11_206_4 (sdX_1 hω) (ks_1 _) rfl (j := 9) rfl dX11_ends_60 ?_
      refine x_iload X dX11_ends_63 4 rfl ?_
      obtain ⟨r15, g16, hf⟩ := bnr_some hf
      refine c_X11_91 X hω g16 (sdX_9 hω) (ks_9 _) (hR := ⟨Nat.le_of_ble_eq_true rfl, Nat.le_of_ble_eq_true rfl⟩) ⟨Nat.zero_le _, Nat.zero_le _⟩ (Nat.le_of_ble_eq_true rfl) dX11_ends_65 ?_
      refine x_istore X [(6, .int r15), (0, .ref (q 0)), (2, .int a10), (3, .int a11), (4, .int a12), (5, .int a13)] dX11_ends_68 (Nat.le_of_ble_eq_true rfl) rfl ?_
      refine x_iload X dX11_ends_70 0 rfl ?_
      refine x_iconst X (v := 5) dX11_ends_72 (by decide) ?_
      refine x_icmp_ne X 82 dX11_ends_73 (by decide) (fun c17 => ?_) (fun c17 => ?_)
      · replace hf := (if_pos c17).symm.trans hf
        obtain ⟨v18, ev18, hf⟩ := nm_some hf
        refine x_iincN X (v := 1) ev18 [(4, .int v18), (6, .int r15), (0, .ref (q 0)), (2, .int a10), (3, .int a11), (5, .int a13)] dX11_ends_76 4 rfl (by decide) (Nat.le_of_ble_eq_true rfl) rfl ?_
        refine x_goto X 114 dX11_ends_79 (by decide) ?_
        refine x_lv [2, 3, 4, 0, 5] rfl ?_
        exact k_X11_ends_114 hω X R _ ih h _ _ _ _ hf
      · replace hf := (if_neg c17).symm.trans hf
        refine x_aload_n X dX11_ends_82 1 rfl rfl ?_
        refine x_iload X dX11_ends_83 0 rfl ?_
        obtain ⟨r24, g25, hf⟩ := bnr_some hf
        refine c_X11_112 X hω g25 (hR := ⟨Nat.le_of_ble_eq_true rfl, Nat.le_of_ble_eq_true rfl⟩) ⟨Nat.zero_le _, Nat.zero_le _⟩ (Nat.le_of_ble_eq_true rfl) dX11_ends_85 ?_
        refine x_if_eq X 114 dX11_ends_88 (by decide) (fun c26 => ?_) (fun c26 => ?_)
        · replace hf := (if_pos c26).symm.trans hf
          refine x_lv [1, 2, 3, 4, 5] rfl ?_
          exact k_X11_ends_114 hω X R _ ih h _ _ _ _ hf
        · replace hf := (if_neg c26).symm.trans hf
          refine x_aload_n X dX11_ends_91 1 rfl rfl ?_
          refine x_iload X dX11_ends_92 0 rfl ?_
          refine x_aload_n X dX11_ends_94 1 rfl rfl ?_
          refine x_getsj X (i := 0) 1 fl_X11_14_12 (sdX_0 hω) (ks_0 _) rfl (j := 1) rfl dX11_ends_95 ?_
          refine x_getsj X (i := 1) 3 fl_X11_115_4 (sdX_1 hω) (ks_1 _) rfl (j := 4) rfl dX11_ends_98 ?_
          refine x_iload X dX11_ends_101 0 rfl ?_
          obtain ⟨z27, hf⟩ := chk_some hf
          refine x_aald X (i := 4) (n := 5) (e := 4) (by decide) (sdX_4 hω) (ks_4 _) z27 dX11_ends_103 ?_
          obtain ⟨i28, ei28, hf⟩ := onO_some hf
          refine x_nn ei28 ?_
          obtain ⟨b29, hf⟩ := ckS_some hf
          refine x_getS_X11_124 X hω b29 dX11_ends_104 ?_
          refine x_iload X dX11_ends_107 4 rfl ?_
          refine x_iload_n X dX11_ends_109 3 rfl rfl ?_
          obtain ⟨h30, r31, g32, hf⟩ := bnd_some hf
          refine c_X11_209 X hω g32 (hR := ⟨Nat.le_of_ble_eq_true rfl, Nat.le_of_ble_eq_true rfl⟩) ⟨Nat.zero_le _, Nat.zero_le _⟩ (Nat.le_of_ble_eq_true rfl) dX11_ends_110 ?_
          refine x_istore_n X [(3, .int r31), (6, .int r15), (0, .ref (q 0)), (2, .int a10), (4, .int a12), (5, .int a13)] dX11_ends_113 rfl (Nat.le_of_ble_eq_true rfl) rfl ?_
          refine x_lv [2, 3, 0, 4, 5] rfl ?_
          exact k_X11_ends_114 hω X R _ ih h30 _ _ _ _ hf
    · replace hf := (if_neg c14).symm.trans hf
      refine x_iload_n X dX11_ends_120 1 rfl rfl ?_
      refine x_if_ne X 128 dX11_ends_121 (by decide) (fun c33 => ?_) (fun c33 => ?_)
      · replace hf := (if_pos c33).symm.trans hf
        refine x_iload_n X dX11_ends_124 2 rfl rfl ?_
        refine x_goto X 133 dX11_ends_125 (by decide) ?_
        refine x_lv [] rfl ?_
        exact k_X11_ends_133 hω X R h _ hf
      · replace hf := (if_neg c33).symm.trans hf
        refine x_aload_n X dX11_ends_128 0 rfl rfl ?_
        refine x_iload_n X dX11_ends_129 2 rfl rfl ?_
        obtain ⟨r35, g36, hf⟩ := bnr_some hf
        refine c_X11_140 X hω g36 (hR := ⟨Nat.le_of_ble_eq_true rfl, Nat.le_of_ble_eq_true rfl⟩) ⟨Nat.zero_le _, Nat.zero_le _⟩ (Nat.le_of_ble_eq_true rfl) dX11_ends_130 ?_
        refine x_lv [] rfl ?_
        exact k_X11_ends_133 hω X R h _ hf
set_option maxRecDepth 100000 in
set_option maxHeartbeats 4000000 in
theorem k_X11_ends {ω : XO} (hω : ω.2.2.2.1 = 1) {L : List Nat} {q : Nat → Nat} {h h' : hp} {p0 : Int32} {p1 : Int32} {r : Int32} (hf : f_X11_ends h p0 p1 = some (h', r)) : XM ω yX11_ends cX11_ends 7 (some .int) rm_X11_ends L q h [.ref (q 0), .int p0, .int p1] (some (.int r)) h' := by
  refine XM_intro [(0, .ref (q 0)), (1, .int p0), (2, .int p1)] "SignalBlind" (by decide) rfl rfl (Nat.le_of_ble_eq_true rfl) (fun κ X R => ?_)
  unfold f_X11_ends at hf
  refine x_aload_n X dX11_ends_0 0 rfl rfl ?_
  refine x_iload_n X dX11_ends_1 1 rfl rfl ?_
  obtain ⟨r1, g2, hf⟩ := bnr_some hf
  refine c_X11_88 X hω g2 (hR := ⟨Nat.le_of_ble_eq_true rfl, Nat.le_of_ble_eq_true rfl⟩) ⟨Nat.zero_le _, Nat.zero_le _⟩ (Nat.le_of_ble_eq_true rfl) dX11_ends_2 ?_
  refine x_if_eq X 15 dX11_ends_5 (by decide) (fun c3 => ?_) (fun c3 => ?_)
  · replace hf := (if_pos c3).symm.trans hf
    refine x_lv [] rfl ?_
    exact k_X11_ends_15 hω X R h hf
  · replace hf := (if_neg c3).symm.trans hf
    refine x_iload_n X dX11_ends_8 2 rfl rfl ?_
    obtain ⟨r4, g5, hf⟩ := bnr_some hf
    refine c_X11_172 X hω g5 (hR := ⟨Nat.le_of_ble_eq_true rfl, Nat.le_of_ble_eq_true rfl⟩) ⟨Nat.zero_le _, Nat.zero_le _⟩ (Nat.le_of_ble_eq_true rfl) dX11_ends_9 ?_
    refine x_if_ne X 17 dX11_ends_12 (by decide) (fun c6 => ?_) (fun c6 => ?_)
    · replace hf := (if_pos c6).symm.trans hf
      refine x_lv [] rfl ?_
      exact k_X11_ends_15 hω X R h hf
    · replace hf := (if_neg c6).symm.trans hf
      refine x_aload_n X dX11_ends_17 0 rfl rfl ?_
      refine x_getsj X (i := 0) 1 fl_X11_14_12 (sdX_0 hω) (ks_0 _) rfl (j := 1) rfl dX11_ends_18 ?_
      refine x_getsj X (i := 1) 1 fl_X11_77_4 (sdX_1 hω) (ks_1 _) rfl (j := 2) rfl dX11_ends_21 ?_
      refine x_iload_n X dX11_ends_24 1 rfl rfl ?_
      obtain ⟨r7, g8, hf⟩ := bnr_some hf
      refine c_X11_91 X hω g8 (sdX_2 hω) (ks_2 _) (hR := ⟨Nat.le_of_ble_eq_true rfl, Nat.le_of_ble_eq_true rfl⟩) ⟨Nat.zero_le _, Nat.zero_le _⟩ (Nat.le_of_ble_eq_true rfl) dX11_ends_25 ?_
      refine x_istore_n X [(3, .int r7), (0, .ref (q 0)), (1, .int p0), (2, .int p1)] dX11_ends_28 rfl (Nat.le_of_ble_eq_true rfl) rfl ?_
      refine x_aload_n X dX11_ends_29 1 rfl rfl ?_
      refine x_getsj X (i := 0) 1 fl_X11_14_12 (sdX_0 hω) (ks_0 _) rfl (j := 1) rfl dX11_ends_30 ?_
      refine x_geti X (i := 1) fl_X11_158_4 (sdX_1 hω) (ks_1 _) rfl dX11_ends_33 ?_
      obtain ⟨v9, ev9, hf⟩ := nm_some hf
      refine x_nmI ev9 ?_
      refine x_istore X [(4, .int v9), (3, .int r7), (0, .ref (q 0)), (1, .int p0), (2, .int p1)] dX11_ends_36 (Nat.le_of_ble_eq_true rfl) rfl ?_
      refine x_iconst X (v := 0) dX11_ends_38 (by decide) ?_
      refine x_istore X [(5, .int (0 : Int32)), (4, .int v9), (3, .int r7), (0, .ref (q 0)), (1, .int p0), (2, .int p1)] dX11_ends_39 (Nat.le_of_ble_eq_true rfl) rfl ?_
      refine x_lv [3, 5, 2, 1, 0] rfl ?_
      exact k_X11_ends_41 hω X R _ h _ _ _ _ hf
theorem mt_X11_ends : MT yX11_ends cX11_ends 7 (some .int) "SignalBlind" 2 := ⟨(mT_4 6 rfl rfl), (mT_4 7 rfl rfl), (mT_1 1 rfl rfl), (mT_4 8 rfl rfl), by decide⟩

abbrev rm_X11_book : Room := { frames := 2, cells := 0, slots := 0, locals := 44 }
def f_X11_book (h : hp) (p0 : Int32) (p1 : Int32) : Option (hp × Int32) := (bnd (f_X11_addPair h 11 p0 p1) fun h1 r2 =>
 (some (h1, r2)))
set_option maxRecDepth 100000 in
set_option maxHeartbeats 4000000 in
theorem k_X11_book {ω : XO} (hω : ω.2.2.2.1 = 1) {L : List Nat} {q : Nat → Nat} {h h' : hp} {p0 : Int32} {p1 : Int32} {r : Int32} (hf : f_X11_book h p0 p1 = some (h', r)) : XM ω yX11_book cX11_book 3 (some .int) rm_X11_book L q h [.ref (q 0), .int p0, .int p1] (some (.int r)) h' := by
  refine XM_intro [(0, .ref (q 0)), (1, .int p0), (2, .int p1)] "SignalBlind" (by decide) rfl rfl (Nat.le_of_ble_eq_true rfl) (fun κ X R => ?_)
  unfold f_X11_book at hf
  refine x_aload_n X dX11_book_0 0 rfl rfl ?_
  refine x_aload_n X dX11_book_1 0 rfl rfl ?_
  refine x_getsj X (i := 0) 1 fl_X11_14_12 (sdX_0 hω) (ks_0 _) rfl (j := 1) rfl dX11_book_2 ?_
  refine x_getsj X (i := 1) 10 fl_X11_213_4 (sdX_1 hω) (ks_1 _) rfl (j := 11) rfl dX11_book_5 ?_
  refine x_iload_n X dX11_book_8 1 rfl rfl ?_
  refine x_iload_n X dX11_book_9 2 rfl rfl ?_
  obtain ⟨h1, r2, g3, hf⟩ := bnd_some hf
  refine c_X11_188 X hω g3 (hR := ⟨Nat.le_of_ble_eq_true rfl, Nat.le_of_ble_eq_true rfl⟩) ⟨Nat.zero_le _, Nat.zero_le _⟩ (Nat.le_of_ble_eq_true rfl) dX11_book_10 ?_
  exact x_retSI X R hf dX11_book_13
theorem mt_X11_book : MT yX11_book cX11_book 3 (some .int) "SignalBlind" 2 := ⟨(mT_4 10 rfl rfl), (mT_4 11 rfl rfl), (mT_1 1 rfl rfl), (mT_4 12 rfl rfl), by decide⟩

abbrev rm_X11_looked : Room := { frames := 1, cells := 0, slots := 0, locals := 21 }
def f_X11_looked_2 (h : hp) : Nat → Int32 → Option Int32
  | 0, _ => none
  | n + 1, a1 => (if a1 < (hI h 11 1) then
 (bnr (f_X2_get h 11 a1) fun r3 =>
 (nz (1024 : Int32)
 (bnr (f_X2_get h 2 (r3 / (1024 : Int32))) fun r6 =>
 (nz (1024 : Int32)
 (if r6 = (r3 - r3 / (1024 : Int32) * (1024 : Int32)) then
 (nm (a1 + (1 : Int32)) fun v10 =>
 ((f_X11_looked_2 h n) v10))
 else
 (some a1))))))
 else
 (some (-5 : Int32)))
def f_X11_looked (h : hp) : Option Int32 := (f_X11_looked_2 h 2000 (0 : Int32))
set_option maxRecDepth 100000 in
set_option maxHeartbeats 4000000 in
theorem k_X11_looked_2 {ω : XO} (hω : ω.2.2.2.1 = 1) {κ : XK} (X : XC ω rm_X11_looked 3 κ cX11_looked "SignalBlind") {L : List Nat} {q : Nat → Nat} {h : hp} {r : Int32} (R : XRet ω rm_X11_looked κ (some .int) L q h (some (.int r))) : ∀ (n : Nat) (a1 : Int32), f_X11_looked_2 h n a1 = some r → XG ω rm_X11_looked 3 κ L q h 0 0 2 [(0, .ref (q 0)), (1, .int a1)] [] := by
  intro n
  induction n with
  | zero =>
    intro a1 hf
    have hf : (none : Option Int32) = some r := hf
    cases hf
  | succ n ih =>
    intro a1 hf
    rw [f_X11_looked_2] at hf
    refine x_iload_n X dX11_looked_2 1 rfl rfl ?_
    refine x_aload_n X dX11_looked_3 0 rfl rfl ?_
    refine x_getsj X (i := 0) 1 fl_X11_14_12 (sdX_0 hω) (ks_0 _) rfl (j := 1) rfl dX11_looked_4 ?_
    refine x_getsj X (i := 1) 10 fl_X11_213_4 (sdX_1 hω) (ks_1 _) rfl (j := 11) rfl dX11_looked_7 ?_
    refine x_geti X (i := 11) fl_X11_179_3 (sdX_11 hω) (ks_11 _) rfl dX11_looked_10 ?_
    refine x_icmp_ge X 59 dX11_looked_13 (by decide) (fun c2 => ?_) (fun c2 => ?_)
    · replace hf := (if_pos c2).symm.trans hf
      refine x_aload_n X dX11_looked_16 0 rfl rfl ?_
      refine x_getsj X (i := 0) 1 fl_X11_14_12 (sdX_0 hω) (ks_0 _) rfl (j := 1) rfl dX11_looked_17 ?_
      refine x_getsj X (i := 1) 10 fl_X11_213_4 (sdX_1 hω) (ks_1 _) rfl (j := 11) rfl dX11_looked_20 ?_
      refine x_iload_n X dX11_looked_23 1 rfl rfl ?_
      obtain ⟨r3, g4, hf⟩ := bnr_some hf
      refine c_X11_91 X hω g4 (sdX_11 hω) (ks_11 _) (hR := ⟨Nat.le_of_ble_eq_true rfl, Nat.le_of_ble_eq_true rfl⟩) ⟨Nat.zero_le _, Nat.zero_le _⟩ (Nat.le_of_ble_eq_true rfl) dX11_looked_24 ?_
      refine x_istore_n X [(2, .int r3), (0, .ref (q 0)), (1, .int a1)] dX11_looked_27 rfl (Nat.le_of_ble_eq_true rfl) rfl ?_
      refine x_aload_n X dX11_looked_28 1 rfl rfl ?_
      refine x_getsj X (i := 0) 1 fl_X11_14_12 (sdX_0 hω) (ks_0 _) rfl (j := 1) rfl dX11_looked_29 ?_
      refine x_getsj X (i := 1) 1 fl_X11_77_4 (sdX_1 hω) (ks_1 _) rfl (j := 2) rfl dX11_looked_32 ?_
      refine x_iload_n X dX11_looked_35 0 rfl rfl ?_
      refine x_sipush X (v := 1024) dX11_looked_36 (by decide) ?_
      obtain ⟨z5, hf⟩ := nz_some hf
      refine x_idiv X dX11_looked_39 z5 ?_
      obtain ⟨r6, g7, hf⟩ := bnr_some hf
      refine c_X11_91 X hω g7 (sdX_2 hω) (ks_2 _) (hR := ⟨Nat.le_of_ble_eq_true rfl, Nat.le_of_ble_eq_true rfl⟩) ⟨Nat.zero_le _, Nat.zero_le _⟩ (Nat.le_of_ble_eq_true rfl) dX11_looked_40 ?_
      refine x_iload_n X dX11_looked_43 0 rfl rfl ?_
      refine x_sipush X (v := 1024) dX11_looked_44 (by decide) ?_
      obtain ⟨z8, hf⟩ := nz_some hf
      refine x_irem X dX11_looked_47 z8 ?_
      refine x_icmp_eq X 53 dX11_looked_48 (by decide) (fun c9 => ?_) (fun c9 => ?_)
      · replace hf := (if_pos c9).symm.trans hf
        obtain ⟨v10, ev10, hf⟩ := nm_some hf
        refine x_iincN X (v := 1) ev10 [(1, .int v10), (2, .int r3), (0, .ref (q 0))] dX11_looked_53 2 rfl (by decide) (Nat.le_of_ble_eq_true rfl) rfl ?_
        refine x_goto X 2 dX11_looked_56 (by decide) ?_
        refine x_lv [2, 0] rfl ?_
        exact ih _ hf
      · replace hf := (if_neg c9).symm.trans hf
        refine x_iload_n X dX11_looked_51 2 rfl rfl ?_
        exact x_retRI X R hf dX11_looked_52
    · replace hf := (if_neg c2).symm.trans hf
      refine x_bipush X (v := -5) dX11_looked_59 (by decide) ?_
      exact x_retRI X R hf dX11_looked_61
set_option maxRecDepth 100000 in
set_option maxHeartbeats 4000000 in
theorem k_X11_looked {ω : XO} (hω : ω.2.2.2.1 = 1) {L : List Nat} {q : Nat → Nat} {h : hp}  {r : Int32} (hf : f_X11_looked h = some r) : XM ω yX11_looked cX11_looked 3 (some .int) rm_X11_looked L q h [.ref (q 0)] (some (.int r)) h := by
  refine XM_intro [(0, .ref (q 0))] "SignalBlind" (by decide) rfl rfl (Nat.le_of_ble_eq_true rfl) (fun κ X R => ?_)
  unfold f_X11_looked at hf
  refine x_iconst X (v := 0) dX11_looked_0 (by decide) ?_
  refine x_istore_n X [(1, .int (0 : Int32)), (0, .ref (q 0))] dX11_looked_1 rfl (Nat.le_of_ble_eq_true rfl) rfl ?_
  refine x_lv [1, 0] rfl ?_
  exact k_X11_looked_2 hω X R _ _ hf
theorem mt_X11_looked : MT yX11_looked cX11_looked 3 (some .int) "SignalBlind" 0 := ⟨(mT_4 14 rfl rfl), (mT_4 15 rfl rfl), (mT_1 1 rfl rfl), (mT_4 16 rfl rfl), by decide⟩

abbrev rm_X11_isTape : Room := { frames := 0, cells := 0, slots := 0, locals := 0 }
def f_X11_isTape_15 (h : hp) (a2 : Int32) : Option Int32 := (ckZ a2
 (some a2))
def f_X11_isTape_14 (h : hp) : Option Int32 := (f_X11_isTape_15 h (0 : Int32))
def f_X11_isTape (h : hp) (p0 : Int32) : Option Int32 := (if p0 < 0 then
 (f_X11_isTape_14 h)
 else
 (if p0 < (6 : Int32) then
 (f_X11_isTape_15 h (1 : Int32))
 else
 (f_X11_isTape_14 h)))
set_option maxRecDepth 100000 in
set_option maxHeartbeats 4000000 in
theorem k_X11_isTape_15 {ω : XO} (hω : ω.2.2.2.1 = 1) {κ : XK} (X : XC ω rm_X11_isTape 1 κ cX11_isTape "SignalBlind") {L : List Nat} {q : Nat → Nat} {h : hp} {r : Int32} (R : XRet ω rm_X11_isTape κ (some .boolean) L q h (some (.int r))) : ∀ (a2 : Int32), f_X11_isTape_15 h a2 = some r → XG ω rm_X11_isTape 1 κ L q h 0 0 15 [] [.int a2] := by
  intro a2 hf
  unfold f_X11_isTape_15 at hf
  obtain ⟨z3, hf⟩ := ckZ_some hf
  exact x_retRZ X R z3 hf dX11_isTape_15
set_option maxRecDepth 100000 in
set_option maxHeartbeats 4000000 in
theorem k_X11_isTape_14 {ω : XO} (hω : ω.2.2.2.1 = 1) {κ : XK} (X : XC ω rm_X11_isTape 1 κ cX11_isTape "SignalBlind") {L : List Nat} {q : Nat → Nat} {h : hp} {r : Int32} (R : XRet ω rm_X11_isTape κ (some .boolean) L q h (some (.int r))) : f_X11_isTape_14 h = some r → XG ω rm_X11_isTape 1 κ L q h 0 0 14 [] [] := by
  intro  hf
  unfold f_X11_isTape_14 at hf
  refine x_iconst X (v := 0) dX11_isTape_14 (by decide) ?_
  refine x_lv [] rfl ?_
  exact k_X11_isTape_15 hω X R _ hf
set_option maxRecDepth 100000 in
set_option maxHeartbeats 4000000 in
theorem k_X11_isTape {ω : XO} (hω : ω.2.2.2.1 = 1) {L : List Nat} {q : Nat → Nat} {h : hp} {p0 : Int32} {r : Int32} (hf : f_X11_isTape h p0 = some r) : XM ω yX11_isTape cX11_isTape 1 (some .boolean) rm_X11_isTape L q h [.int p0] (some (.int r)) h := by
  refine XM_intro [(0, .int p0)] "SignalBlind" (by decide) rfl rfl (Nat.le_of_ble_eq_true rfl) (fun κ X R => ?_)
  unfold f_X11_isTape at hf
  refine x_iload_n X dX11_isTape_0 0 rfl rfl ?_
  refine x_if_lt X 14 dX11_isTape_1 (by decide) (fun c1 => ?_) (fun c1 => ?_)
  · replace hf := (if_pos c1).symm.trans hf
    refine x_lv [] rfl ?_
    exact k_X11_isTape_14 hω X R  hf
  · replace hf := (if_neg c1).symm.trans hf
    refine x_iload_n X dX11_isTape_4 0 rfl rfl ?_
    refine x_bipush X (v := 6) dX11_isTape_5 (by decide) ?_
    refine x_icmp_ge X 14 dX11_isTape_7 (by decide) (fun c4 => ?_) (fun c4 => ?_)
    · replace hf := (if_pos c4).symm.trans hf
      refine x_iconst X (v := 1) dX11_isTape_10 (by decide) ?_
      refine x_goto X 15 dX11_isTape_11 (by decide) ?_
      refine x_lv [] rfl ?_
      exact k_X11_isTape_15 hω X R _ hf
    · replace hf := (if_neg c4).symm.trans hf
      refine x_lv [] rfl ?_
      exact k_X11_isTape_14 hω X R  hf
theorem mt_X11_isTape : MS yX11_isTape cX11_isTape 1 (some .boolean) 1 := ⟨(mT_4 22 rfl rfl), (mT_1 1 rfl rfl), (mT_4 23 rfl rfl), by decide⟩
theorem c_X11_216 {ω : XO} {rm : Room} {nL : Nat} {κ : XK} {cc : ByteArray} (X : XC ω rm nL κ cc "SignalBlind") (hω : ω.2.2.2.1 = 1) {L : List Nat} {q : Nat → Nat} {h : hp} {cells slots pc : Nat} {lv : List (Nat × Value)} {rest : List Value} {p0 : Int32} {r : Int32} (hf : f_X11_isTape h p0 = some r) (hR : rm_X11_isTape.frames + 1 ≤ rm.frames ∧ 8 + (1 + 11) + rm_X11_isTape.locals ≤ rm.locals) (hcs : cells ≤ rm.cells ∧ slots ≤ rm.slots) (hroom : (rest.map fun v => v.category).sum ≤ 8) (hd : decode cc pc = .ok (.invokestatic 216, 3)) (kk : XG ω rm nL κ L q h cells slots (pc + 3) lv (.int r :: rest)) : XG ω rm nL κ L q h cells slots pc lv (.int p0 :: rest) := x_callS X [.int p0] rest (k_X11_isTape hω hf) mt_X11_isTape (mT_4 21 rfl rfl) hR ⟨rfl, rfl⟩ hcs rfl hroom hd kk

abbrev rm_X11_judge : Room := { frames := 1, cells := 0, slots := 0, locals := 21 }
def f_X11_judge_72 (h : hp) (a18 : Int32) : Option Int32 := (some ((100 : Int32) + a18))
def f_X11_judge_38 (h : hp) : Nat → Int32 → Nat → Int32 → Option Int32
  | 0, _, _, _ => none
  | n + 1, a10, a11, a12 => (if a12 < (hI h 2 1) then
 (ckO 1 h a11 8
 (bnr (f_X6_has h a11 a10) fun r15 =>
 (if r15 = 0 then
 (f_X11_judge_72 h a12)
 else
 (ckO 1 h a11 8
 (bnr (f_X6_has h a11 (a10 + a12)) fun r20 =>
 (if r20 = 0 then
 (f_X11_judge_72 h a12)
 else
 (ckO 1 h a11 8
 (ckA 1 h (a11 + 1) 3
 (chk (a10 + a12) (alen h (a11 + 1))
 (bnr (f_X2_get h 2 a12) fun r26 =>
 (if (lg_cmp (aL h (a11 + 1) ((a10 + a12)).toNatClampNeg) ((r26).toInt64)) = 0 then
 (nm (a12 + (1 : Int32)) fun v29 =>
 ((f_X11_judge_38 h n) a10 a11 v29))
 else
 (some a12))))))))))))
 else
 (some (-5 : Int32)))
def f_X11_judge_35 (h : hp) (a8 : Int32) (a9 : Nat) : Option Int32 := (f_X11_judge_38 h 2000 a8 a9 (0 : Int32))
def f_X11_judge (h : hp) (p0 : Int32) (p1 : Int32) : Option Int32 := (bnr (f_X11_isTape h p0) fun r1 =>
 (if r1 = 0 then
 (some (-1 : Int32))
 else
 (chk p0 6
 (onO (aR h 32 (p0).toNatClampNeg) none fun i5 =>
 (ckO 1 h i5 8
 (if (hI h i5 1) = (-1 : Int32) then
 (f_X11_judge_35 h p1 i5)
 else
 (ckO 1 h i5 8
 (if (hI h i5 1) = (1 : Int32) then
 (f_X11_judge_35 h p1 i5)
 else
 (some (-12 : Int32))))))))))
set_option maxRecDepth 100000 in
set_option maxHeartbeats 4000000 in
theorem k_X11_judge_72 {ω : XO} (hω : ω.2.2.2.1 = 1) {κ : XK} (X : XC ω rm_X11_judge 5 κ cX11_judge "SignalBlind") {L : List Nat} {q : Nat → Nat} {h : hp} {r : Int32} (R : XRet ω rm_X11_judge κ (some .int) L q h (some (.int r))) : ∀ (a18 : Int32), f_X11_judge_72 h a18 = some r → XG ω rm_X11_judge 5 κ L q h 0 0 72 [(4, .int a18)] [] := by
  intro a18 hf
  unfold f_X11_judge_72 at hf
  refine x_bipush X (v := 100) dX11_judge_72 (by decide) ?_
  refine x_iload X dX11_judge_74 0 rfl ?_
  refine x_iadd X dX11_judge_76 ?_
  exact x_retRI X R hf dX11_judge_77
set_option maxRecDepth 100000 in
set_option maxHeartbeats 4000000 in
theorem k_X11_judge_38 {ω : XO} (hω : ω.2.2.2.1 = 1) {κ : XK} (X : XC ω rm_X11_judge 5 κ cX11_judge "SignalBlind") {L : List Nat} {q : Nat → Nat} {h : hp} {r : Int32} (R : XRet ω rm_X11_judge κ (some .int) L q h (some (.int r))) : ∀ (n : Nat) (a10 : Int32) (a11 : Nat) (a12 : Int32), f_X11_judge_38 h n a10 a11 a12 = some r → XG ω rm_X11_judge 5 κ L q h 0 0 38 [(0, .ref (q 0)), (2, .int a10), (3, .ref (q a11)), (4, .int a12)] [] := by
  intro n
  induction n with
  | zero =>
    intro a10 a11 a12 hf
    have hf : (none : Option Int32) = some r := hf
    cases hf
  | succ n ih =>
    intro a10 a11 a12 hf
    rw [f_X11_judge_38] at hf
    refine x_iload X dX11_judge_38 3 rfl ?_
    refine x_aload_n X dX11_judge_40 0 rfl rfl ?_
    refine x_getsj X (i := 0) 1 fl_X11_14_12 (sdX_0 hω) (ks_0 _) rfl (j := 1) rfl dX11_judge_41 ?_
    refine x_getsj X (i := 1) 1 fl_X11_77_4 (sdX_1 hω) (ks_1 _) rfl (j := 2) rfl dX11_judge_44 ?_
    refine x_geti X (i := 2) fl_X11_179_3 (sdX_2 hω) (ks_2 _) rfl dX11_judge_47 ?_
    refine x_icmp_ge X 113 dX11_judge_50 (by decide) (fun c13 => ?_) (fun c13 => ?_)
    · replace hf := (if_pos c13).symm.trans hf
      refine x_aload_n X dX11_judge_53 2 rfl rfl ?_
      refine x_iload_n X dX11_judge_54 1 rfl rfl ?_
      obtain ⟨b14, hf⟩ := ckO_some hf
      obtain ⟨r15, g16, hf⟩ := bnr_some hf
      refine c_X11_222 X hω g16 (sd_of hω b14.1) b14.2 (hR := ⟨Nat.le_of_ble_eq_true rfl, Nat.le_of_ble_eq_true rfl⟩) ⟨Nat.zero_le _, Nat.zero_le _⟩ (Nat.le_of_ble_eq_true rfl) dX11_judge_55 ?_
      refine x_if_eq X 72 dX11_judge_58 (by decide) (fun c17 => ?_) (fun c17 => ?_)
      · replace hf := (if_pos c17).symm.trans hf
        refine x_lv [3] rfl ?_
        exact k_X11_judge_72 hω X R _ hf
      · replace hf := (if_neg c17).symm.trans hf
        refine x_aload_n X dX11_judge_61 2 rfl rfl ?_
        refine x_iload_n X dX11_judge_62 1 rfl rfl ?_
        refine x_iload X dX11_judge_63 3 rfl ?_
        refine x_iadd X dX11_judge_65 ?_
        obtain ⟨b19, hf⟩ := ckO_some hf
        obtain ⟨r20, g21, hf⟩ := bnr_some hf
        refine c_X11_222 X hω g21 (sd_of hω b19.1) b19.2 (hR := ⟨Nat.le_of_ble_eq_true rfl, Nat.le_of_ble_eq_true rfl⟩) ⟨Nat.zero_le _, Nat.zero_le _⟩ (Nat.le_of_ble_eq_true rfl) dX11_judge_66 ?_
        refine x_if_ne X 78 dX11_judge_69 (by decide) (fun c22 => ?_) (fun c22 => ?_)
        · replace hf := (if_pos c22).symm.trans hf
          refine x_lv [3] rfl ?_
          exact k_X11_judge_72 hω X R _ hf
        · replace hf := (if_neg c22).symm.trans hf
          refine x_aload_n X dX11_judge_78 2 rfl rfl ?_
          obtain ⟨b23, hf⟩ := ckO_some hf
          refine x_getsj X (i := a11) 1 fl_X11_225_7 (sd_of hω b23.1) b23.2 rfl (j := (a11 + 1)) rfl dX11_judge_79 ?_
          refine x_iload_n X dX11_judge_82 1 rfl rfl ?_
          refine x_iload X dX11_judge_83 3 rfl ?_
          refine x_iadd X dX11_judge_85 ?_
          obtain ⟨b24, hf⟩ := ckA_some hf
          obtain ⟨z25, hf⟩ := chk_some hf
          refine x_lald X (i := (a11 + 1)) (n := (alen h (a11 + 1))) (sd_of hω b24.1) b24.2 z25 dX11_judge_86 ?_
          refine x_aload_n X dX11_judge_87 0 rfl rfl ?_
          refine x_getsj X (i := 0) 1 fl_X11_14_12 (sdX_0 hω) (ks_0 _) rfl (j := 1) rfl dX11_judge_88 ?_
          refine x_getsj X (i := 1) 1 fl_X11_77_4 (sdX_1 hω) (ks_1 _) rfl (j := 2) rfl dX11_judge_91 ?_
          refine x_iload X dX11_judge_94 3 rfl ?_
          obtain ⟨r26, g27, hf⟩ := bnr_some hf
          refine c_X11_91 X hω g27 (sdX_2 hω) (ks_2 _) (hR := ⟨Nat.le_of_ble_eq_true rfl, Nat.le_of_ble_eq_true rfl⟩) ⟨Nat.zero_le _, Nat.zero_le _⟩ (Nat.le_of_ble_eq_true rfl) dX11_judge_96 ?_
          refine x_i2l X dX11_judge_99 ?_
          refine x_lcmp X dX11_judge_100 ?_
          refine x_if_eq X 107 dX11_judge_101 (by decide) (fun c28 => ?_) (fun c28 => ?_)
          · replace hf := (if_pos c28).symm.trans hf
            obtain ⟨v29, ev29, hf⟩ := nm_some hf
            refine x_iincN X (v := 1) ev29 [(4, .int v29), (0, .ref (q 0)), (2, .int a10), (3, .ref (q a11))] dX11_judge_107 3 rfl (by decide) (Nat.le_of_ble_eq_true rfl) rfl ?_
            refine x_goto X 38 dX11_judge_110 (by decide) ?_
            refine x_lv [1, 2, 3, 0] rfl ?_
            exact ih _ _ _ hf
          · replace hf := (if_neg c28).symm.trans hf
            refine x_iload X dX11_judge_104 3 rfl ?_
            exact x_retRI X R hf dX11_judge_106
    · replace hf := (if_neg c13).symm.trans hf
      refine x_bipush X (v := -5) dX11_judge_113 (by decide) ?_
      exact x_retRI X R hf dX11_judge_115
set_option maxRecDepth 100000 in
set_option maxHeartbeats 4000000 in
theorem k_X11_judge_35 {ω : XO} (hω : ω.2.2.2.1 = 1) {κ : XK} (X : XC ω rm_X11_judge 5 κ cX11_judge "SignalBlind") {L : List Nat} {q : Nat → Nat} {h : hp} {r : Int32} (R : XRet ω rm_X11_judge κ (some .int) L q h (some (.int r))) : ∀ (a8 : Int32) (a9 : Nat), f_X11_judge_35 h a8 a9 = some r → XG ω rm_X11_judge 5 κ L q h 0 0 35 [(0, .ref (q 0)), (2, .int a8), (3, .ref (q a9))] [] := by
  intro a8 a9 hf
  unfold f_X11_judge_35 at hf
  refine x_iconst X (v := 0) dX11_judge_35 (by decide) ?_
  refine x_istore X [(4, .int (0 : Int32)), (0, .ref (q 0)), (2, .int a8), (3, .ref (q a9))] dX11_judge_36 (Nat.le_of_ble_eq_true rfl) rfl ?_
  refine x_lv [1, 2, 3, 0] rfl ?_
  exact k_X11_judge_38 hω X R _ _ _ _ hf
set_option maxRecDepth 100000 in
set_option maxHeartbeats 4000000 in
theorem k_X11_judge {ω : XO} (hω : ω.2.2.2.1 = 1) {L : List Nat} {q : Nat → Nat} {h : hp} {p0 : Int32} {p1 : Int32} {r : Int32} (hf : f_X11_judge h p0 p1 = some r) : XM ω yX11_judge cX11_judge 5 (some .int) rm_X11_judge L q h [.ref (q 0), .int p0, .int p1] (some (.int r)) h := by
  refine XM_intro [(0, .ref (q 0)), (1, .int p0), (2, .int p1)] "SignalBlind" (by decide) rfl rfl (Nat.le_of_ble_eq_true rfl) (fun κ X R => ?_)
  unfold f_X11_judge at hf
  refine x_iload_n X dX11_judge_0 1 rfl rfl ?_
  obtain ⟨r1, g2, hf⟩ := bnr_some hf
  refine c_X11_216 X hω g2 (hR := ⟨Nat.le_of_ble_eq_true rfl, Nat.le_of_ble_eq_true rfl⟩) ⟨Nat.zero_le _, Nat.zero_le _⟩ (Nat.le_of_ble_eq_true rfl) dX11_judge_1 ?_
  refine x_if_ne X 9 dX11_judge_4 (by decide) (fun c3 => ?_) (fun c3 => ?_)
  · replace hf := (if_pos c3).symm.trans hf
    refine x_iconst X (v := -1) dX11_judge_7 (by decide) ?_
    exact x_retRI X R hf dX11_judge_8
  · replace hf := (if_neg c3).symm.trans hf
    refine x_aload_n X dX11_judge_9 0 rfl rfl ?_
    refine x_getsj X (i := 0) 32 fl_X11_47_12 (sdX_0 hω) (ks_0 _) rfl (j := 32) rfl dX11_judge_10 ?_
    refine x_iload_n X dX11_judge_13 1 rfl rfl ?_
    obtain ⟨z4, hf⟩ := chk_some hf
    refine x_aald X (i := 32) (n := 6) (e := 5) (by decide) (sdX_32 hω) (ks_32 _) z4 dX11_judge_14 ?_
    obtain ⟨i5, ei5, hf⟩ := onO_some hf
    refine x_nn ei5 ?_
    refine x_astore_n X [(3, .ref (q i5)), (0, .ref (q 0)), (1, .int p0), (2, .int p1)] dX11_judge_15 rfl (Nat.le_of_ble_eq_true rfl) rfl ?_
    refine x_aload_n X dX11_judge_16 0 rfl rfl ?_
    obtain ⟨b6, hf⟩ := ckO_some hf
    refine x_geti X (i := i5) fl_X11_219_7 (sd_of hω b6.1) b6.2 rfl dX11_judge_17 ?_
    refine x_iconst X (v := -1) dX11_judge_20 (by decide) ?_
    refine x_icmp_eq X 35 dX11_judge_21 (by decide) (fun c7 => ?_) (fun c7 => ?_)
    · replace hf := (if_pos c7).symm.trans hf
      refine x_lv [1, 3, 0] rfl ?_
      exact k_X11_judge_35 hω X R _ _ hf
    · replace hf := (if_neg c7).symm.trans hf
      refine x_aload_n X dX11_judge_24 0 rfl rfl ?_
      obtain ⟨b30, hf⟩ := ckO_some hf
      refine x_geti X (i := i5) fl_X11_219_7 (sd_of hω b30.1) b30.2 rfl dX11_judge_25 ?_
      refine x_iconst X (v := 1) dX11_judge_28 (by decide) ?_
      refine x_icmp_eq X 35 dX11_judge_29 (by decide) (fun c31 => ?_) (fun c31 => ?_)
      · replace hf := (if_pos c31).symm.trans hf
        refine x_lv [1, 3, 0] rfl ?_
        exact k_X11_judge_35 hω X R _ _ hf
      · replace hf := (if_neg c31).symm.trans hf
        refine x_bipush X (v := -12) dX11_judge_32 (by decide) ?_
        exact x_retRI X R hf dX11_judge_34
theorem mt_X11_judge : MT yX11_judge cX11_judge 5 (some .int) "SignalBlind" 2 := ⟨(mT_4 18 rfl rfl), (mT_4 19 rfl rfl), (mT_1 1 rfl rfl), (mT_4 20 rfl rfl), by decide⟩

abbrev rm_X11_image : Room := { frames := 3, cells := 0, slots := 0, locals := 106 }
def f_X11_image (h : hp) : Option (hp × Int32) := (bnd (f_X3_become h 13 1) fun h1 _ =>
 (nm (sI h1 0 2 (1 : Int32)) fun h3 =>
 (some (h3, (hI h3 1 2)))))
set_option maxRecDepth 100000 in
set_option maxHeartbeats 4000000 in
theorem k_X11_image {ω : XO} (hω : ω.2.2.2.1 = 1) {L : List Nat} {q : Nat → Nat} {h h' : hp}  {r : Int32} (hf : f_X11_image h = some (h', r)) : XM ω yX11_image cX11_image 1 (some .int) rm_X11_image L q h [.ref (q 0)] (some (.int r)) h' := by
  refine XM_intro [(0, .ref (q 0))] "SignalBlind" (by decide) rfl rfl (Nat.le_of_ble_eq_true rfl) (fun κ X R => ?_)
  unfold f_X11_image at hf
  refine x_aload_n X dX11_image_0 0 rfl rfl ?_
  refine x_getsj X (i := 0) 13 fl_X11_18_12 (sdX_0 hω) (ks_0 _) rfl (j := 13) rfl dX11_image_1 ?_
  refine x_aload_n X dX11_image_4 0 rfl rfl ?_
  refine x_getsj X (i := 0) 1 fl_X11_14_12 (sdX_0 hω) (ks_0 _) rfl (j := 1) rfl dX11_image_5 ?_
  obtain ⟨h1, uh1, g2, hf⟩ := bnd_some hf
  refine c_X11_228 X hω g2 (sdX_13 hω) (ks_13 _) (hR := ⟨Nat.le_of_ble_eq_true rfl, Nat.le_of_ble_eq_true rfl⟩) ⟨Nat.zero_le _, Nat.zero_le _⟩ (Nat.le_of_ble_eq_true rfl) dX11_image_8 ?_
  refine x_aload_n X dX11_image_11 0 rfl rfl ?_
  refine x_iconst X (v := 1) dX11_image_12 (by decide) ?_
  refine x_puti X (i := 0) fl_X11_21_12 fw_12 (sdX_0 hω) (ks_0 _) rfl rfl rfl rfl dX11_image_13 ?_
  obtain ⟨h3, eh3, hf⟩ := nm_some hf
  refine x_nmh eh3 ?_
  refine x_aload_n X dX11_image_16 0 rfl rfl ?_
  refine x_getsj X (i := 0) 1 fl_X11_14_12 (sdX_0 hω) (ks_0 _) rfl (j := 1) rfl dX11_image_17 ?_
  refine x_geti X (i := 1) fl_X11_101_4 (sdX_1 hω) (ks_1 _) rfl dX11_image_20 ?_
  exact x_retSI X R hf dX11_image_23
theorem mt_X11_image : MT yX11_image cX11_image 1 (some .int) "SignalBlind" 0 := ⟨(mT_4 29 rfl rfl), (mT_4 30 rfl rfl), (mT_1 1 rfl rfl), (mT_4 31 rfl rfl), by decide⟩

abbrev rm_X11_undo : Room := { frames := 3, cells := 0, slots := 0, locals := 106 }
def f_X11_undo (h : hp) : Option (hp × Int32) := (if (hI h 0 2) = 0 then
 (some (h, (-3 : Int32)))
 else
 (bnd (f_X3_become h 1 13) fun h2 _ =>
 (some (h2, (hI h2 1 2)))))
set_option maxRecDepth 100000 in
set_option maxHeartbeats 4000000 in
theorem k_X11_undo {ω : XO} (hω : ω.2.2.2.1 = 1) {L : List Nat} {q : Nat → Nat} {h h' : hp}  {r : Int32} (hf : f_X11_undo h = some (h', r)) : XM ω yX11_undo cX11_undo 1 (some .int) rm_X11_undo L q h [.ref (q 0)] (some (.int r)) h' := by
  refine XM_intro [(0, .ref (q 0))] "SignalBlind" (by decide) rfl rfl (Nat.le_of_ble_eq_true rfl) (fun κ X R => ?_)
  unfold f_X11_undo at hf
  refine x_aload_n X dX11_undo_0 0 rfl rfl ?_
  refine x_geti X (i := 0) fl_X11_21_12 (sdX_0 hω) (ks_0 _) rfl dX11_undo_1 ?_
  refine x_if_ne X 10 dX11_undo_4 (by decide) (fun c1 => ?_) (fun c1 => ?_)
  · replace hf := (if_pos c1).symm.trans hf
    refine x_bipush X (v := -3) dX11_undo_7 (by decide) ?_
    exact x_retSI X R hf dX11_undo_9
  · replace hf := (if_neg c1).symm.trans hf
    refine x_aload_n X dX11_undo_10 0 rfl rfl ?_
    refine x_getsj X (i := 0) 1 fl_X11_14_12 (sdX_0 hω) (ks_0 _) rfl (j := 1) rfl dX11_undo_11 ?_
    refine x_aload_n X dX11_undo_14 0 rfl rfl ?_
    refine x_getsj X (i := 0) 13 fl_X11_18_12 (sdX_0 hω) (ks_0 _) rfl (j := 13) rfl dX11_undo_15 ?_
    obtain ⟨h2, uh2, g3, hf⟩ := bnd_some hf
    refine c_X11_228 X hω g3 (sdX_1 hω) (ks_1 _) (hR := ⟨Nat.le_of_ble_eq_true rfl, Nat.le_of_ble_eq_true rfl⟩) ⟨Nat.zero_le _, Nat.zero_le _⟩ (Nat.le_of_ble_eq_true rfl) dX11_undo_18 ?_
    refine x_aload_n X dX11_undo_21 0 rfl rfl ?_
    refine x_getsj X (i := 0) 1 fl_X11_14_12 (sdX_0 hω) (ks_0 _) rfl (j := 1) rfl dX11_undo_22 ?_
    refine x_geti X (i := 1) fl_X11_101_4 (sdX_1 hω) (ks_1 _) rfl dX11_undo_25 ?_
    exact x_retSI X R hf dX11_undo_28
theorem mt_X11_undo : MT yX11_undo cX11_undo 1 (some .int) "SignalBlind" 0 := ⟨(mT_4 43 rfl rfl), (mT_4 44 rfl rfl), (mT_1 1 rfl rfl), (mT_4 45 rfl rfl), by decide⟩

abbrev rm_X11_trace : Room := { frames := 4, cells := 0, slots := 0, locals := 88 }
def f_X11_trace_33 (h : hp) (a2 : Int32) : Option (hp × Int32) := (some (h, a2))
def f_X11_trace_32 (h : hp) : Option (hp × Int32) := (f_X11_trace_33 h (-1 : Int32))
def f_X11_trace (h : hp) (p0 : Int32) : Option (hp × Int32) := (if p0 < 0 then
 (f_X11_trace_32 h)
 else
 (if p0 < (20 : Int32) then
 (bnr (f_J4_length_8abf5 h 33) fun r4 =>
 (if p0 < r4 then
 (bnd (f_J4_charAt_5068e h 33 p0) fun h7 r8 =>
 (f_X11_trace_33 h7 r8))
 else
 (f_X11_trace_32 h)))
 else
 (f_X11_trace_32 h)))
set_option maxRecDepth 100000 in
set_option maxHeartbeats 4000000 in
theorem k_X11_trace_33 {ω : XO} (hω : ω.2.2.2.1 = 1) {κ : XK} (X : XC ω rm_X11_trace 2 κ cX11_trace "SignalBlind") {L : List Nat} {q : Nat → Nat} {h' : hp} {r : Int32} (R : XRet ω rm_X11_trace κ (some .int) L q h' (some (.int r))) : ∀ (h : hp) (a2 : Int32), f_X11_trace_33 h a2 = some (h', r) → XG ω rm_X11_trace 2 κ L q h 0 0 33 [] [.int a2] := by
  intro h a2 hf
  unfold f_X11_trace_33 at hf
  exact x_retSI X R hf dX11_trace_33
set_option maxRecDepth 100000 in
set_option maxHeartbeats 4000000 in
theorem k_X11_trace_32 {ω : XO} (hω : ω.2.2.2.1 = 1) {κ : XK} (X : XC ω rm_X11_trace 2 κ cX11_trace "SignalBlind") {L : List Nat} {q : Nat → Nat} {h' : hp} {r : Int32} (R : XRet ω rm_X11_trace κ (some .int) L q h' (some (.int r))) : ∀ (h : hp), f_X11_trace_32 h = some (h', r) → XG ω rm_X11_trace 2 κ L q h 0 0 32 [] [] := by
  intro h hf
  unfold f_X11_trace_32 at hf
  refine x_iconst X (v := -1) dX11_trace_32 (by decide) ?_
  refine x_lv [] rfl ?_
  exact k_X11_trace_33 hω X R h _ hf
set_option maxRecDepth 100000 in
set_option maxHeartbeats 4000000 in
theorem k_X11_trace {ω : XO} (hω : ω.2.2.2.1 = 1) {L : List Nat} {q : Nat → Nat} {h h' : hp} {p0 : Int32} {r : Int32} (hf : f_X11_trace h p0 = some (h', r)) : XM ω yX11_trace cX11_trace 2 (some .int) rm_X11_trace L q h [.ref (q 0), .int p0] (some (.int r)) h' := by
  refine XM_intro [(0, .ref (q 0)), (1, .int p0)] "SignalBlind" (by decide) rfl rfl (Nat.le_of_ble_eq_true rfl) (fun κ X R => ?_)
  unfold f_X11_trace at hf
  refine x_iload_n X dX11_trace_0 1 rfl rfl ?_
  refine x_if_lt X 32 dX11_trace_1 (by decide) (fun c1 => ?_) (fun c1 => ?_)
  · replace hf := (if_pos c1).symm.trans hf
    refine x_lv [] rfl ?_
    exact k_X11_trace_32 hω X R h hf
  · replace hf := (if_neg c1).symm.trans hf
    refine x_iload_n X dX11_trace_4 1 rfl rfl ?_
    refine x_bipush X (v := 20) dX11_trace_5 (by decide) ?_
    refine x_icmp_ge X 32 dX11_trace_7 (by decide) (fun c3 => ?_) (fun c3 => ?_)
    · replace hf := (if_pos c3).symm.trans hf
      refine x_iload_n X dX11_trace_10 1 rfl rfl ?_
      refine x_aload_n X dX11_trace_11 0 rfl rfl ?_
      refine x_getsj X (i := 0) 33 fl_X11_54_12 (sdX_0 hω) (ks_0 _) rfl (j := 33) rfl dX11_trace_12 ?_
      obtain ⟨r4, g5, hf⟩ := bnr_some hf
      refine c_X11_245 X hω g5 (sdX_33 hω) (ks_33 _) (hR := ⟨Nat.le_of_ble_eq_true rfl, Nat.le_of_ble_eq_true rfl⟩) ⟨Nat.zero_le _, Nat.zero_le _⟩ (Nat.le_of_ble_eq_true rfl) dX11_trace_15 ?_
      refine x_icmp_ge X 32 dX11_trace_18 (by decide) (fun c6 => ?_) (fun c6 => ?_)
      · replace hf := (if_pos c6).symm.trans hf
        refine x_aload_n X dX11_trace_21 0 rfl rfl ?_
        refine x_getsj X (i := 0) 33 fl_X11_54_12 (sdX_0 hω) (ks_0 _) rfl (j := 33) rfl dX11_trace_22 ?_
        refine x_iload_n X dX11_trace_25 1 rfl rfl ?_
        obtain ⟨h7, r8, g9, hf⟩ := bnd_some hf
        refine c_X11_248 X hω g9 (sdX_33 hω) (ks_33 _) (hR := ⟨Nat.le_of_ble_eq_true rfl, Nat.le_of_ble_eq_true rfl⟩) ⟨Nat.zero_le _, Nat.zero_le _⟩ (Nat.le_of_ble_eq_true rfl) dX11_trace_26 ?_
        refine x_goto X 33 dX11_trace_29 (by decide) ?_
        refine x_lv [] rfl ?_
        exact k_X11_trace_33 hω X R h7 _ hf
      · replace hf := (if_neg c6).symm.trans hf
        refine x_lv [] rfl ?_
        exact k_X11_trace_32 hω X R h hf
    · replace hf := (if_neg c3).symm.trans hf
      refine x_lv [] rfl ?_
      exact k_X11_trace_32 hω X R h hf
theorem mt_X11_trace : MT yX11_trace cX11_trace 2 (some .int) "SignalBlind" 1 := ⟨(mT_4 215 rfl rfl), (mT_4 216 rfl rfl), (mT_1 1 rfl rfl), (mT_4 217 rfl rfl), by decide⟩

abbrev rm_X11_isOfKind : Room := { frames := 0, cells := 0, slots := 0, locals := 0 }
def f_X11_isOfKind (h : hp) (p0 : Nat) (p1 : Int32) : Option Int32 := (if p1 = (0 : Int32) then
 (some (1 : Int32))
 else
 (if p1 = (1 : Int32) then
 (ckS h p0
 (ckZ (isK h p0 [9, 7])
 (some (isK h p0 [9, 7]))))
 else
 (if p1 = (2 : Int32) then
 (ckS h p0
 (ckZ (isK h p0 [2, 12])
 (some (isK h p0 [2, 12]))))
 else
 (if p1 = (3 : Int32) then
 (ckS h p0
 (ckZ (isK h p0 [3, 10])
 (some (isK h p0 [3, 10]))))
 else
 (if p1 = (4 : Int32) then
 (ckS h p0
 (ckZ (isK h p0 [7])
 (some (isK h p0 [7]))))
 else
 (if p1 = (5 : Int32) then
 (ckS h p0
 (ckZ (isK h p0 [12])
 (some (isK h p0 [12]))))
 else
 (if p1 = (6 : Int32) then
 (ckS h p0
 (ckZ (isK h p0 [10])
 (some (isK h p0 [10]))))
 else
 (some (0 : Int32)))))))))
set_option maxRecDepth 100000 in
set_option maxHeartbeats 4000000 in
theorem k_X11_isOfKind {ω : XO} (hω : ω.2.2.2.1 = 1) {L : List Nat} {q : Nat → Nat} {h : hp} {p0 : Nat} {p1 : Int32} {r : Int32} (hf : f_X11_isOfKind h p0 p1 = some r) : XM ω yX11_isOfKind cX11_isOfKind 2 (some .boolean) rm_X11_isOfKind L q h [.ref (q p0), .int p1] (some (.int r)) h := by
  refine XM_intro [(0, .ref (q p0)), (1, .int p1)] "SignalBlind" (by decide) rfl rfl (Nat.le_of_ble_eq_true rfl) (fun κ X R => ?_)
  unfold f_X11_isOfKind at hf
  refine x_iload_n X dX11_isOfKind_0 1 rfl rfl ?_
  by_cases s1 : p1 = (0 : Int32)
  · replace hf := (if_pos s1).symm.trans hf
    refine x_tswI X (off := 43) 44 dX11_isOfKind_1 s1 (by decide) (by decide) (by decide) (by decide) ?_
    refine x_iconst X (v := 1) dX11_isOfKind_44 (by decide) ?_
    exact x_retRZ X R (by decide) hf dX11_isOfKind_45
  · replace hf := (if_neg s1).symm.trans hf
    by_cases s2 : p1 = (1 : Int32)
    · replace hf := (if_pos s2).symm.trans hf
      refine x_tswI X (off := 45) 46 dX11_isOfKind_1 s2 (by decide) (by decide) (by decide) (by decide) ?_
      refine x_aload_n X dX11_isOfKind_46 0 rfl rfl ?_
      obtain ⟨b3, hf⟩ := ckS_some hf
      refine x_inst_305 X hω b3 dX11_isOfKind_47 ?_
      obtain ⟨z4, hf⟩ := ckZ_some hf
      exact x_retRZ X R z4 hf dX11_isOfKind_50
    · replace hf := (if_neg s2).symm.trans hf
      by_cases s5 : p1 = (2 : Int32)
      · replace hf := (if_pos s5).symm.trans hf
        refine x_tswI X (off := 50) 51 dX11_isOfKind_1 s5 (by decide) (by decide) (by decide) (by decide) ?_
        refine x_aload_n X dX11_isOfKind_51 0 rfl rfl ?_
        obtain ⟨b6, hf⟩ := ckS_some hf
        refine x_inst_310 X hω b6 dX11_isOfKind_52 ?_
        obtain ⟨z7, hf⟩ := ckZ_some hf
        exact x_retRZ X R z7 hf dX11_isOfKind_55
      · replace hf := (if_neg s5).symm.trans hf
        by_cases s8 : p1 = (3 : Int32)
        · replace hf := (if_pos s8).symm.trans hf
          refine x_tswI X (off := 55) 56 dX11_isOfKind_1 s8 (by decide) (by decide) (by decide) (by decide) ?_
          refine x_aload_n X dX11_isOfKind_56 0 rfl rfl ?_
          obtain ⟨b9, hf⟩ := ckS_some hf
          refine x_inst_313 X hω b9 dX11_isOfKind_57 ?_
          obtain ⟨z10, hf⟩ := ckZ_some hf
          exact x_retRZ X R z10 hf dX11_isOfKind_60
        · replace hf := (if_neg s8).symm.trans hf
          by_cases s11 : p1 = (4 : Int32)
          · replace hf := (if_pos s11).symm.trans hf
            refine x_tswI X (off := 60) 61 dX11_isOfKind_1 s11 (by decide) (by decide) (by decide) (by decide) ?_
            refine x_aload_n X dX11_isOfKind_61 0 rfl rfl ?_
            obtain ⟨b12, hf⟩ := ckS_some hf
            refine x_inst_316 X hω b12 dX11_isOfKind_62 ?_
            obtain ⟨z13, hf⟩ := ckZ_some hf
            exact x_retRZ X R z13 hf dX11_isOfKind_65
          · replace hf := (if_neg s11).symm.trans hf
            by_cases s14 : p1 = (5 : Int32)
            · replace hf := (if_pos s14).symm.trans hf
              refine x_tswI X (off := 65) 66 dX11_isOfKind_1 s14 (by decide) (by decide) (by decide) (by decide) ?_
              refine x_aload_n X dX11_isOfKind_66 0 rfl rfl ?_
              obtain ⟨b15, hf⟩ := ckS_some hf
              refine x_inst_319 X hω b15 dX11_isOfKind_67 ?_
              obtain ⟨z16, hf⟩ := ckZ_some hf
              exact x_retRZ X R z16 hf dX11_isOfKind_70
            · replace hf := (if_neg s14).symm.trans hf
              by_cases s17 : p1 = (6 : Int32)
              · replace hf := (if_pos s17).symm.trans hf
                refine x_tswI X (off := 70) 71 dX11_isOfKind_1 s17 (by decide) (by decide) (by decide) (by decide) ?_
                refine x_aload_n X dX11_isOfKind_71 0 rfl rfl ?_
                obtain ⟨b18, hf⟩ := ckS_some hf
                refine x_inst_143 X hω b18 dX11_isOfKind_72 ?_
                obtain ⟨z19, hf⟩ := ckZ_some hf
                exact x_retRZ X R z19 hf dX11_isOfKind_75
              · replace hf := (if_neg s17).symm.trans hf
                refine x_tswO X 76 dX11_isOfKind_1 (by have := lv_neT s1 (a := 0) (by decide); have := lv_neT s2 (a := 1) (by decide); have := lv_neT s5 (a := 2) (by decide); have := lv_neT s8 (a := 3) (by decide); have := lv_neT s11 (a := 4) (by decide); have := lv_neT s14 (a := 5) (by decide); have := lv_neT s17 (a := 6) (by decide); omega) (by decide) ?_
                refine x_iconst X (v := 0) dX11_isOfKind_76 (by decide) ?_
                exact x_retRZ X R (by decide) hf dX11_isOfKind_77
theorem mt_X11_isOfKind : MS yX11_isOfKind cX11_isOfKind 2 (some .boolean) 2 := ⟨(mT_5 0 rfl rfl), (mT_1 1 rfl rfl), (mT_5 1 rfl rfl), by decide⟩
theorem c_X11_252 {ω : XO} {rm : Room} {nL : Nat} {κ : XK} {cc : ByteArray} (X : XC ω rm nL κ cc "SignalBlind") (hω : ω.2.2.2.1 = 1) {L : List Nat} {q : Nat → Nat} {h : hp} {cells slots pc : Nat} {lv : List (Nat × Value)} {rest : List Value} {p0 : Nat} {p1 : Int32} {r : Int32} (hf : f_X11_isOfKind h p0 p1 = some r) (hR : rm_X11_isOfKind.frames + 1 ≤ rm.frames ∧ 8 + (2 + 11) + rm_X11_isOfKind.locals ≤ rm.locals) (hcs : cells ≤ rm.cells ∧ slots ≤ rm.slots) (hroom : (rest.map fun v => v.category).sum ≤ 8) (hd : decode cc pc = .ok (.invokestatic 252, 3)) (kk : XG ω rm nL κ L q h cells slots (pc + 3) lv (.int r :: rest)) : XG ω rm nL κ L q h cells slots pc lv (.int p1 :: .ref (q p0) :: rest) := x_callS X [.ref (q p0), .int p1] rest (k_X11_isOfKind hω hf) mt_X11_isOfKind (mT_4 239 rfl rfl) hR ⟨rfl, rfl⟩ hcs rfl hroom hd kk

abbrev rm_X11_taken : Room := { frames := 1, cells := 0, slots := 0, locals := 21 }
def f_X11_taken_10 (h : hp) : Option Int32 := (some (-2 : Int32))
def f_X11_taken_51 (h : hp) (a11 : Int32) : Option Int32 := (some a11)
def f_X11_taken (h : hp) (p0 : Int32) (p1 : Int32) : Option Int32 := (if p1 < 0 then
 (f_X11_taken_10 h)
 else
 (if p1 < (7 : Int32) then
 (bnr (f_X11_isSender h p0) fun r3 =>
 (if r3 = 0 then
 (some (-11 : Int32))
 else
 (chk p0 5
 (onO (aR h 4 (p0).toNatClampNeg) none fun i7 =>
 (bnr (f_X11_isOfKind h i7 p1) fun r8 =>
 (if r8 = 0 then
 (f_X11_taken_51 h (-12 : Int32))
 else
 (ckS h i7
 (f_X11_taken_51 h (hI h i7 1)))))))))
 else
 (f_X11_taken_10 h)))
set_option maxRecDepth 100000 in
set_option maxHeartbeats 4000000 in
theorem k_X11_taken_10 {ω : XO} (hω : ω.2.2.2.1 = 1) {κ : XK} (X : XC ω rm_X11_taken 4 κ cX11_taken "SignalBlind") {L : List Nat} {q : Nat → Nat} {h : hp} {r : Int32} (R : XRet ω rm_X11_taken κ (some .int) L q h (some (.int r))) : f_X11_taken_10 h = some r → XG ω rm_X11_taken 4 κ L q h 0 0 10 [] [] := by
  intro  hf
  unfold f_X11_taken_10 at hf
  refine x_bipush X (v := -2) dX11_taken_10 (by decide) ?_
  exact x_retRI X R hf dX11_taken_12
set_option maxRecDepth 100000 in
set_option maxHeartbeats 4000000 in
theorem k_X11_taken_51 {ω : XO} (hω : ω.2.2.2.1 = 1) {κ : XK} (X : XC ω rm_X11_taken 4 κ cX11_taken "SignalBlind") {L : List Nat} {q : Nat → Nat} {h : hp} {r : Int32} (R : XRet ω rm_X11_taken κ (some .int) L q h (some (.int r))) : ∀ (a11 : Int32), f_X11_taken_51 h a11 = some r → XG ω rm_X11_taken 4 κ L q h 0 0 51 [] [.int a11] := by
  intro a11 hf
  unfold f_X11_taken_51 at hf
  exact x_retRI X R hf dX11_taken_51
set_option maxRecDepth 100000 in
set_option maxHeartbeats 4000000 in
theorem k_X11_taken {ω : XO} (hω : ω.2.2.2.1 = 1) {L : List Nat} {q : Nat → Nat} {h : hp} {p0 : Int32} {p1 : Int32} {r : Int32} (hf : f_X11_taken h p0 p1 = some r) : XM ω yX11_taken cX11_taken 4 (some .int) rm_X11_taken L q h [.ref (q 0), .int p0, .int p1] (some (.int r)) h := by
  refine XM_intro [(0, .ref (q 0)), (1, .int p0), (2, .int p1)] "SignalBlind" (by decide) rfl rfl (Nat.le_of_ble_eq_true rfl) (fun κ X R => ?_)
  unfold f_X11_taken at hf
  refine x_iload_n X dX11_taken_0 2 rfl rfl ?_
  refine x_if_lt X 10 dX11_taken_1 (by decide) (fun c1 => ?_) (fun c1 => ?_)
  · replace hf := (if_pos c1).symm.trans hf
    refine x_lv [] rfl ?_
    exact k_X11_taken_10 hω X R  hf
  · replace hf := (if_neg c1).symm.trans hf
    refine x_iload_n X dX11_taken_4 2 rfl rfl ?_
    refine x_bipush X (v := 7) dX11_taken_5 (by decide) ?_
    refine x_icmp_lt X 13 dX11_taken_7 (by decide) (fun c2 => ?_) (fun c2 => ?_)
    · replace hf := (if_pos c2).symm.trans hf
      refine x_aload_n X dX11_taken_13 0 rfl rfl ?_
      refine x_iload_n X dX11_taken_14 1 rfl rfl ?_
      obtain ⟨r3, g4, hf⟩ := bnr_some hf
      refine c_X11_112 X hω g4 (hR := ⟨Nat.le_of_ble_eq_true rfl, Nat.le_of_ble_eq_true rfl⟩) ⟨Nat.zero_le _, Nat.zero_le _⟩ (Nat.le_of_ble_eq_true rfl) dX11_taken_15 ?_
      refine x_if_ne X 24 dX11_taken_18 (by decide) (fun c5 => ?_) (fun c5 => ?_)
      · replace hf := (if_pos c5).symm.trans hf
        refine x_bipush X (v := -11) dX11_taken_21 (by decide) ?_
        exact x_retRI X R hf dX11_taken_23
      · replace hf := (if_neg c5).symm.trans hf
        refine x_aload_n X dX11_taken_24 0 rfl rfl ?_
        refine x_getsj X (i := 0) 1 fl_X11_14_12 (sdX_0 hω) (ks_0 _) rfl (j := 1) rfl dX11_taken_25 ?_
        refine x_getsj X (i := 1) 3 fl_X11_115_4 (sdX_1 hω) (ks_1 _) rfl (j := 4) rfl dX11_taken_28 ?_
        refine x_iload_n X dX11_taken_31 1 rfl rfl ?_
        obtain ⟨z6, hf⟩ := chk_some hf
        refine x_aald X (i := 4) (n := 5) (e := 4) (by decide) (sdX_4 hω) (ks_4 _) z6 dX11_taken_32 ?_
        obtain ⟨i7, ei7, hf⟩ := onO_some hf
        refine x_nn ei7 ?_
        refine x_astore_n X [(3, .ref (q i7)), (0, .ref (q 0)), (1, .int p0), (2, .int p1)] dX11_taken_33 rfl (Nat.le_of_ble_eq_true rfl) rfl ?_
        refine x_aload_n X dX11_taken_34 0 rfl rfl ?_
        refine x_iload_n X dX11_taken_35 3 rfl rfl ?_
        obtain ⟨r8, g9, hf⟩ := bnr_some hf
        refine c_X11_252 X hω g9 (hR := ⟨Nat.le_of_ble_eq_true rfl, Nat.le_of_ble_eq_true rfl⟩) ⟨Nat.zero_le _, Nat.zero_le _⟩ (Nat.le_of_ble_eq_true rfl) dX11_taken_36 ?_
        refine x_if_eq X 49 dX11_taken_39 (by decide) (fun c10 => ?_) (fun c10 => ?_)
        · replace hf := (if_pos c10).symm.trans hf
          refine x_bipush X (v := -12) dX11_taken_49 (by decide) ?_
          refine x_lv [] rfl ?_
          exact k_X11_taken_51 hω X R _ hf
        · replace hf := (if_neg c10).symm.trans hf
          refine x_aload_n X dX11_taken_42 0 rfl rfl ?_
          obtain ⟨b12, hf⟩ := ckS_some hf
          refine x_getS_X11_119 X hω b12 dX11_taken_43 ?_
          refine x_goto X 51 dX11_taken_46 (by decide) ?_
          refine x_lv [] rfl ?_
          exact k_X11_taken_51 hω X R _ hf
    · replace hf := (if_neg c2).symm.trans hf
      refine x_lv [] rfl ?_
      exact k_X11_taken_10 hω X R  hf
theorem mt_X11_taken : MT yX11_taken cX11_taken 4 (some .int) "SignalBlind" 2 := ⟨(mT_4 236 rfl rfl), (mT_4 237 rfl rfl), (mT_1 1 rfl rfl), (mT_4 238 rfl rfl), by decide⟩
