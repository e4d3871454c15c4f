abbrev rm_X11_hours : Room := { frames := 5, cells := 0, slots := 0, locals := 125 }
def f_X11_hours_16 (h : hp) : Option (hp × Int32) := (some (h, (-1 : Int32)))
def f_X11_hours_56 (k23 : hp → Int32 → Int32 → Int32 → Int32 → Option (hp × Int32)) (h : hp) (a16 : Int32) (a17 : Int32) (a18 : Int32) (a19 : Int32) : Option (hp × Int32) := (nm (a19 + (1 : Int32)) fun v20 =>
 (k23 h a16 a17 a18 v20))
def f_X11_hours_23 : Nat → hp → Int32 → Int32 → Int32 → Int32 → Option (hp × Int32)
  | 0, _, _, _, _, _ => none
  | n + 1, h, a7, a8, a9, a10 => (if a10 < (24 : Int32) then
 (bnd (f_X11_comes h a7 a8 ((hI h 1 5) + a10)) fun h12 r13 =>
 (if r13 = 0 then
 (f_X11_hours_56 (f_X11_hours_23 n) h12 a7 a8 a9 a10)
 else
 (nm (a9 ||| ((1 : Int32) <<< (a10 &&& 31))) fun v21 =>
 (f_X11_hours_56 (f_X11_hours_23 n) h12 a7 a8 v21 a10))))
 else
 (some (h, a9)))
def f_X11_hours (h : hp) (p0 : Int32) (p1 : Int32) : Option (hp × Int32) := (bnr (f_X11_isSender h p0) fun r1 =>
 (if r1 = 0 then
 (f_X11_hours_16 h)
 else
 (bnr (f_X11_isWord h p1) fun r4 =>
 (if r4 = 0 then
 (f_X11_hours_16 h)
 else
 (f_X11_hours_23 2000 h p0 p1 (0 : Int32) (0 : Int32))))))
set_option maxRecDepth 100000 in
set_option maxHeartbeats 4000000 in
theorem k_X11_hours_16 {ω : XO} (hω : ω.2.2.2.1 = 1) {κ : XK} (X : XC ω rm_X11_hours 5 κ cX11_hours "SignalBlind") {L : List Nat} {q : Nat → Nat} {h' : hp} {r : Int32} (R : XRet ω rm_X11_hours κ (some .int) L q h' (some (.int r))) : ∀ (h : hp), f_X11_hours_16 h = some (h', r) → XG ω rm_X11_hours 5 κ L q h 0 0 16 [] [] := by
  intro h hf
  unfold f_X11_hours_16 at hf
  refine x_iconst X (v := -1) dX11_hours_16 (by decide) ?_
  exact x_retSI X R hf dX11_hours_17
set_option maxRecDepth 100000 in
set_option maxHeartbeats 4000000 in
theorem k_X11_hours_56 {ω : XO} (hω : ω.2.2.2.1 = 1) {κ : XK} (X : XC ω rm_X11_hours 5 κ cX11_hours "SignalBlind") {L : List Nat} {q : Nat → Nat} {h' : hp} {r : Int32} (R : XRet ω rm_X11_hours κ (some .int) L q h' (some (.int r))) (k23 : hp → Int32 → Int32 → Int32 → Int32 → Option (hp × Int32)) (hk23 : ∀ (h : hp) (a7 : Int32) (a8 : Int32) (a9 : Int32) (a10 : Int32), k23 h a7 a8 a9 a10 = some (h', r) → XG ω rm_X11_hours 5 κ L q h 0 0 23 [(0, .ref (q 0)), (1, .int a7), (2, .int a8), (3, .int a9), (4, .int a10)] []) : ∀ (h : hp) (a16 : Int32) (a17 : Int32) (a18 : Int32) (a19 : Int32), f_X11_hours_56 k23 h a16 a17 a18 a19 = some (h', r) → XG ω rm_X11_hours 5 κ L q h 0 0 56 [(0, .ref (q 0)), (1, .int a16), (2, .int a17), (3, .int a18), (4, .int a19)] [] := by
  intro h a16 a17 a18 a19 hf
  unfold f_X11_hours_56 at hf
  obtain ⟨v20, ev20, hf⟩ := nm_some hf
  refine x_iincN X (v := 1) ev20 [(4, .int v20), (0, .ref (q 0)), (1, .int a16), (2, .int a17), (3, .int a18)] dX11_hours_56 4 rfl (by decide) (Nat.le_of_ble_eq_true rfl) rfl ?_
  refine x_goto X 23 dX11_hours_59 (by decide) ?_
  refine x_lv [1, 2, 3, 4, 0] rfl ?_
  exact hk23 h _ _ _ _ hf
set_option maxRecDepth 100000 in
set_option maxHeartbeats 4000000 in
theorem k_X11_hours_23 {ω : XO} (hω : ω.2.2.2.1 = 1) {κ : XK} (X : XC ω rm_X11_hours 5 κ cX11_hours "SignalBlind") {L : List Nat} {q : Nat → Nat} {h' : hp} {r : Int32} (R : XRet ω rm_X11_hours κ (some .int) L q h' (some (.int r))) : ∀ (n : Nat) (h : hp) (a7 : Int32) (a8 : Int32) (a9 : Int32) (a10 : Int32), f_X11_hours_23 n h a7 a8 a9 a10 = some (h', r) → XG ω rm_X11_hours 5 κ L q h 0 0 23 [(0, .ref (q 0)), (1, .int a7), (2, .int a8), (3, .int a9), (4, .int a10)] [] := by
  intro n
  induction n with
  | zero =>
    intro h a7 a8 a9 a10 hf
    have hf : (none : Option (hp × Int32)) = some (h', r) := hf
    cases hf
  | succ n ih =>
    intro h a7 a8 a9 a10 hf
    rw [f_X11_hours_23] at hf
    refine x_iload X dX11_hours_23 4 rfl ?_
    refine x_bipush X (v := 24) dX11_hours_25 (by decide) ?_
    refine x_icmp_ge X 62 dX11_hours_27 (by decide) (fun c11 => ?_) (fun c11 => ?_)
    · replace hf := (if_pos c11).symm.trans hf
      refine x_aload_n X dX11_hours_30 0 rfl rfl ?_
      refine x_iload_n X dX11_hours_31 1 rfl rfl ?_
      refine x_iload_n X dX11_hours_32 2 rfl rfl ?_
      refine x_aload_n X dX11_hours_33 0 rfl rfl ?_
      refine x_getsj X (i := 0) 1 fl_X11_14_12 (sdX_0 hω) (ks_0 _) rfl (j := 1) rfl dX11_hours_34 ?_
      refine x_geti X (i := 1) fl_X11_158_4 (sdX_1 hω) (ks_1 _) rfl dX11_hours_37 ?_
      refine x_iload X dX11_hours_40 4 rfl ?_
      refine x_iadd X dX11_hours_42 ?_
      obtain ⟨h12, r13, g14, hf⟩ := bnd_some hf
      refine c_X11_175 X hω g14 (hR := ⟨Nat.le_of_ble_eq_true rfl, Nat.le_of_ble_eq_true rfl⟩) ⟨Nat.zero_le _, Nat.zero_le _⟩ (Nat.le_of_ble_eq_true rfl) dX11_hours_43 ?_
      refine x_if_eq X 56 dX11_hours_46 (by decide) (fun c15 => ?_) (fun c15 => ?_)
      · replace hf := (if_pos c15).symm.trans hf
        refine x_lv [0, 1, 2, 3, 4] rfl ?_
        exact k_X11_hours_56 hω X R _ ih h12 _ _ _ _ hf
      · replace hf := (if_neg c15).symm.trans hf
        refine x_iload_n X dX11_hours_49 3 rfl rfl ?_
        refine x_iconst X (v := 1) dX11_hours_50 (by decide) ?_
        refine x_iload X dX11_hours_51 4 rfl ?_
        refine x_ishl X dX11_hours_53 ?_
        refine x_ior X dX11_hours_54 ?_
        obtain ⟨v21, ev21, hf⟩ := nm_some hf
        refine x_nmI ev21 ?_
        refine x_istore_n X [(3, .int v21), (0, .ref (q 0)), (1, .int a7), (2, .int a8), (4, .int a10)] dX11_hours_55 rfl (Nat.le_of_ble_eq_true rfl) rfl ?_
        refine x_lv [1, 2, 3, 0, 4] rfl ?_
        exact k_X11_hours_56 hω X R _ ih h12 _ _ _ _ hf
    · replace hf := (if_neg c11).symm.trans hf
      refine x_iload_n X dX11_hours_62 3 rfl rfl ?_
      exact x_retSI X R hf dX11_hours_63
set_option maxRecDepth 100000 in
set_option maxHeartbeats 4000000 in
theorem k_X11_hours {ω : XO} (hω : ω.2.2.2.1 = 1) {L : List Nat} {q : Nat → Nat} {h h' : hp} {p0 : Int32} {p1 : Int32} {r : Int32} (hf : f_X11_hours h p0 p1 = some (h', r)) : XM ω yX11_hours cX11_hours 5 (some .int) rm_X11_hours L q h [.ref (q 0), .int p0, .int p1] (some (.int r)) h' := by
  refine XM_intro [(0, .ref (q 0)), (1, .int p0), (2, .int p1)] "SignalBlind" (by decide) rfl rfl (Nat.le_of_ble_eq_true rfl) (fun κ X R => ?_)
  unfold f_X11_hours at hf
  refine x_aload_n X dX11_hours_0 0 rfl rfl ?_
  refine x_iload_n X dX11_hours_1 1 rfl rfl ?_
  obtain ⟨r1, g2, hf⟩ := bnr_some hf
  refine c_X11_112 X hω g2 (hR := ⟨Nat.le_of_ble_eq_true rfl, Nat.le_of_ble_eq_true rfl⟩) ⟨Nat.zero_le _, Nat.zero_le _⟩ (Nat.le_of_ble_eq_true rfl) dX11_hours_2 ?_
  refine x_if_eq X 16 dX11_hours_5 (by decide) (fun c3 => ?_) (fun c3 => ?_)
  · replace hf := (if_pos c3).symm.trans hf
    refine x_lv [] rfl ?_
    exact k_X11_hours_16 hω X R h hf
  · replace hf := (if_neg c3).symm.trans hf
    refine x_aload_n X dX11_hours_8 0 rfl rfl ?_
    refine x_iload_n X dX11_hours_9 2 rfl rfl ?_
    obtain ⟨r4, g5, hf⟩ := bnr_some hf
    refine c_X11_88 X hω g5 (hR := ⟨Nat.le_of_ble_eq_true rfl, Nat.le_of_ble_eq_true rfl⟩) ⟨Nat.zero_le _, Nat.zero_le _⟩ (Nat.le_of_ble_eq_true rfl) dX11_hours_10 ?_
    refine x_if_ne X 18 dX11_hours_13 (by decide) (fun c6 => ?_) (fun c6 => ?_)
    · replace hf := (if_pos c6).symm.trans hf
      refine x_lv [] rfl ?_
      exact k_X11_hours_16 hω X R h hf
    · replace hf := (if_neg c6).symm.trans hf
      refine x_iconst X (v := 0) dX11_hours_18 (by decide) ?_
      refine x_istore_n X [(3, .int (0 : Int32)), (0, .ref (q 0)), (1, .int p0), (2, .int p1)] dX11_hours_19 rfl (Nat.le_of_ble_eq_true rfl) rfl ?_
      refine x_iconst X (v := 0) dX11_hours_20 (by decide) ?_
      refine x_istore X [(4, .int (0 : Int32)), (3, .int (0 : Int32)), (0, .ref (q 0)), (1, .int p0), (2, .int p1)] dX11_hours_21 (Nat.le_of_ble_eq_true rfl) rfl ?_
      refine x_lv [2, 3, 4, 1, 0] rfl ?_
      exact k_X11_hours_23 hω X R _ h _ _ _ _ hf
theorem mt_X11_hours : MT yX11_hours cX11_hours 5 (some .int) "SignalBlind" 2 := ⟨(mT_3 175 rfl rfl), (mT_3 176 rfl rfl), (mT_1 1 rfl rfl), (mT_3 177 rfl rfl), by decide⟩

abbrev rm_X11_senders : Room := { frames := 5, cells := 0, slots := 0, locals := 124 }
def f_X11_senders_65 (k25 : hp → Int32 → Int32 → Int32 → Int32 → Option (hp × Int32)) (h : hp) (a19 : Int32) (a20 : Int32) (a21 : Int32) (a22 : Int32) : Option (hp × Int32) := (nm (a22 + (1 : Int32)) fun v23 =>
 (k25 h a19 a20 a21 v23))
def f_X11_senders_25 : Nat → hp → Int32 → Int32 → Int32 → Int32 → Option (hp × Int32)
  | 0, _, _, _, _, _ => none
  | n + 1, h, a7, a8, a9, a10 => (if a10 < (hI h 1 2) then
 (bnr (f_X2_get h 2 a7) fun r12 =>
 (bnd (f_X11_shownNow h a10 r12) fun h14 r15 =>
 (if r15 = a8 then
 (nm (a9 ||| ((1 : Int32) <<< (a10 &&& 31))) fun v18 =>
 (f_X11_senders_65 (f_X11_senders_25 n) h14 a7 a8 v18 a10))
 else
 (f_X11_senders_65 (f_X11_senders_25 n) h14 a7 a8 a9 a10))))
 else
 (some (h, a9)))
def f_X11_senders (h : hp) (p0 : Int32) (p1 : Int32) : Option (hp × Int32) := (bnr (f_X11_isWord h p0) fun r1 =>
 (if r1 = 0 then
 (some (h, (-1 : Int32)))
 else
 (bnr (f_X11_isSign h p1) fun r4 =>
 (if r4 = 0 then
 (some (h, (-2 : Int32)))
 else
 (f_X11_senders_25 2000 h p0 p1 (0 : Int32) (0 : Int32))))))
set_option maxRecDepth 100000 in
set_option maxHeartbeats 4000000 in
theorem k_X11_senders_65 {ω : XO} (hω : ω.2.2.2.1 = 1) {κ : XK} (X : XC ω rm_X11_senders 5 κ cX11_senders "SignalBlind") {L : List Nat} {q : Nat → Nat} {h' : hp} {r : Int32} (R : XRet ω rm_X11_senders κ (some .int) L q h' (some (.int r))) (k25 : hp → Int32 → Int32 → Int32 → Int32 → Option (hp × Int32)) (hk25 : ∀ (h : hp) (a7 : Int32) (a8 : Int32) (a9 : Int32) (a10 : Int32), k25 h a7 a8 a9 a10 = some (h', r) → XG ω rm_X11_senders 5 κ L q h 0 0 25 [(0, .ref (q 0)), (1, .int a7), (2, .int a8), (3, .int a9), (4, .int a10)] []) : ∀ (h : hp) (a19 : Int32) (a20 : Int32) (a21 : Int32) (a22 : Int32), f_X11_senders_65 k25 h a19 a20 a21 a22 = some (h', r) → XG ω rm_X11_senders 5 κ L q h 0 0 65 [(0, .ref (q 0)), (1, .int a19), (2, .int a20), (3, .int a21), (4, .int a22)] [] := by
  intro h a19 a20 a21 a22 hf
  unfold f_X11_senders_65 at hf
  obtain ⟨v23, ev23, hf⟩ := nm_some hf
  refine x_iincN X (v := 1) ev23 [(4, .int v23), (0, .ref (q 0)), (1, .int a19), (2, .int a20), (3, .int a21)] dX11_senders_65 4 rfl (by decide) (Nat.le_of_ble_eq_true rfl) rfl ?_
  refine x_goto X 25 dX11_senders_68 (by decide) ?_
  refine x_lv [1, 2, 3, 4, 0] rfl ?_
  exact hk25 h _ _ _ _ hf
set_option maxRecDepth 100000 in
set_option maxHeartbeats 4000000 in
theorem k_X11_senders_25 {ω : XO} (hω : ω.2.2.2.1 = 1) {κ : XK} (X : XC ω rm_X11_senders 5 κ cX11_senders "SignalBlind") {L : List Nat} {q : Nat → Nat} {h' : hp} {r : Int32} (R : XRet ω rm_X11_senders κ (some .int) L q h' (some (.int r))) : ∀ (n : Nat) (h : hp) (a7 : Int32) (a8 : Int32) (a9 : Int32) (a10 : Int32), f_X11_senders_25 n h a7 a8 a9 a10 = some (h', r) → XG ω rm_X11_senders 5 κ L q h 0 0 25 [(0, .ref (q 0)), (1, .int a7), (2, .int a8), (3, .int a9), (4, .int a10)] [] := by
  intro n
  induction n with
  | zero =>
    intro h a7 a8 a9 a10 hf
    have hf : (none : Option (hp × Int32)) = some (h', r) := hf
    cases hf
  | succ n ih =>
    intro h a7 a8 a9 a10 hf
    rw [f_X11_senders_25] at hf
    refine x_iload X dX11_senders_25 4 rfl ?_
    refine x_aload_n X dX11_senders_27 0 rfl rfl ?_
    refine x_getsj X (i := 0) 1 fl_X11_14_12 (sdX_0 hω) (ks_0 _) rfl (j := 1) rfl dX11_senders_28 ?_
    refine x_geti X (i := 1) fl_X11_101_4 (sdX_1 hω) (ks_1 _) rfl dX11_senders_31 ?_
    refine x_icmp_ge X 71 dX11_senders_34 (by decide) (fun c11 => ?_) (fun c11 => ?_)
    · replace hf := (if_pos c11).symm.trans hf
      refine x_aload_n X dX11_senders_37 0 rfl rfl ?_
      refine x_iload X dX11_senders_38 4 rfl ?_
      refine x_aload_n X dX11_senders_40 0 rfl rfl ?_
      refine x_getsj X (i := 0) 1 fl_X11_14_12 (sdX_0 hω) (ks_0 _) rfl (j := 1) rfl dX11_senders_41 ?_
      refine x_getsj X (i := 1) 1 fl_X11_77_4 (sdX_1 hω) (ks_1 _) rfl (j := 2) rfl dX11_senders_44 ?_
      refine x_iload_n X dX11_senders_47 1 rfl rfl ?_
      obtain ⟨r12, g13, hf⟩ := bnr_some hf
      refine c_X11_91 X hω g13 (sdX_2 hω) (ks_2 _) (hR := ⟨Nat.le_of_ble_eq_true rfl, Nat.le_of_ble_eq_true rfl⟩) ⟨Nat.zero_le _, Nat.zero_le _⟩ (Nat.le_of_ble_eq_true rfl) dX11_senders_48 ?_
      obtain ⟨h14, r15, g16, hf⟩ := bnd_some hf
      refine c_X11_136 X hω g16 (hR := ⟨Nat.le_of_ble_eq_true rfl, Nat.le_of_ble_eq_true rfl⟩) ⟨Nat.zero_le _, Nat.zero_le _⟩ (Nat.le_of_ble_eq_true rfl) dX11_senders_51 ?_
      refine x_iload_n X dX11_senders_54 2 rfl rfl ?_
      refine x_icmp_ne X 65 dX11_senders_55 (by decide) (fun c17 => ?_) (fun c17 => ?_)
      · replace hf := (if_pos c17).symm.trans hf
        refine x_iload_n X dX11_senders_58 3 rfl rfl ?_
        refine x_iconst X (v := 1) dX11_senders_59 (by decide) ?_
        refine x_iload X dX11_senders_60 4 rfl ?_
        refine x_ishl X dX11_senders_62 ?_
        refine x_ior X dX11_senders_63 ?_
        obtain ⟨v18, ev18, hf⟩ := nm_some hf
        refine x_nmI ev18 ?_
        refine x_istore_n X [(3, .int v18), (0, .ref (q 0)), (1, .int a7), (2, .int a8), (4, .int a10)] dX11_senders_64 rfl (Nat.le_of_ble_eq_true rfl) rfl ?_
        refine x_lv [1, 2, 3, 0, 4] rfl ?_
        exact k_X11_senders_65 hω X R _ ih h14 _ _ _ _ hf
      · replace hf := (if_neg c17).symm.trans hf
        refine x_lv [0, 1, 2, 3, 4] rfl ?_
        exact k_X11_senders_65 hω X R _ ih h14 _ _ _ _ hf
    · replace hf := (if_neg c11).symm.trans hf
      refine x_iload_n X dX11_senders_71 3 rfl rfl ?_
      exact x_retSI X R hf dX11_senders_72
set_option maxRecDepth 100000 in
set_option maxHeartbeats 4000000 in
theorem k_X11_senders {ω : XO} (hω : ω.2.2.2.1 = 1) {L : List Nat} {q : Nat → Nat} {h h' : hp} {p0 : Int32} {p1 : Int32} {r : Int32} (hf : f_X11_senders h p0 p1 = some (h', r)) : XM ω yX11_senders cX11_senders 5 (some .int) rm_X11_senders L q h [.ref (q 0), .int p0, .int p1] (some (.int r)) h' := by
  refine XM_intro [(0, .ref (q 0)), (1, .int p0), (2, .int p1)] "SignalBlind" (by decide) rfl rfl (Nat.le_of_ble_eq_true rfl) (fun κ X R => ?_)
  unfold f_X11_senders at hf
  refine x_aload_n X dX11_senders_0 0 rfl rfl ?_
  refine x_iload_n X dX11_senders_1 1 rfl rfl ?_
  obtain ⟨r1, g2, hf⟩ := bnr_some hf
  refine c_X11_88 X hω g2 (hR := ⟨Nat.le_of_ble_eq_true rfl, Nat.le_of_ble_eq_true rfl⟩) ⟨Nat.zero_le _, Nat.zero_le _⟩ (Nat.le_of_ble_eq_true rfl) dX11_senders_2 ?_
  refine x_if_ne X 10 dX11_senders_5 (by decide) (fun c3 => ?_) (fun c3 => ?_)
  · replace hf := (if_pos c3).symm.trans hf
    refine x_iconst X (v := -1) dX11_senders_8 (by decide) ?_
    exact x_retSI X R hf dX11_senders_9
  · replace hf := (if_neg c3).symm.trans hf
    refine x_iload_n X dX11_senders_10 2 rfl rfl ?_
    obtain ⟨r4, g5, hf⟩ := bnr_some hf
    refine c_X11_73 X hω g5 (hR := ⟨Nat.le_of_ble_eq_true rfl, Nat.le_of_ble_eq_true rfl⟩) ⟨Nat.zero_le _, Nat.zero_le _⟩ (Nat.le_of_ble_eq_true rfl) dX11_senders_11 ?_
    refine x_if_ne X 20 dX11_senders_14 (by decide) (fun c6 => ?_) (fun c6 => ?_)
    · replace hf := (if_pos c6).symm.trans hf
      refine x_bipush X (v := -2) dX11_senders_17 (by decide) ?_
      exact x_retSI X R hf dX11_senders_19
    · replace hf := (if_neg c6).symm.trans hf
      refine x_iconst X (v := 0) dX11_senders_20 (by decide) ?_
      refine x_istore_n X [(3, .int (0 : Int32)), (0, .ref (q 0)), (1, .int p0), (2, .int p1)] dX11_senders_21 rfl (Nat.le_of_ble_eq_true rfl) rfl ?_
      refine x_iconst X (v := 0) dX11_senders_22 (by decide) ?_
      refine x_istore X [(4, .int (0 : Int32)), (3, .int (0 : Int32)), (0, .ref (q 0)), (1, .int p0), (2, .int p1)] dX11_senders_23 (Nat.le_of_ble_eq_true rfl) rfl ?_
      refine x_lv [2, 3, 4, 1, 0] rfl ?_
      exact k_X11_senders_25 hω X R _ h _ _ _ _ hf
theorem mt_X11_senders : MT yX11_senders cX11_senders 5 (some .int) "SignalBlind" 2 := ⟨(mT_3 179 rfl rfl), (mT_3 180 rfl rfl), (mT_1 1 rfl rfl), (mT_3 181 rfl rfl), by decide⟩

abbrev rm_X11_meant : Room := { frames := 5, cells := 0, slots := 0, locals := 124 }
def f_X11_meant_68 (k25 : hp → Int32 → Int32 → Int32 → Int32 → Option (hp × Int32)) (h : hp) (a19 : Int32) (a20 : Int32) (a21 : Int32) (a22 : Int32) : Option (hp × Int32) := (nm (a22 + (1 : Int32)) fun v23 =>
 (k25 h a19 a20 a21 v23))
def f_X11_meant_25 : Nat → hp → Int32 → Int32 → Int32 → Int32 → Option (hp × Int32)
  | 0, _, _, _, _, _ => none
  | n + 1, h, a7, a8, a9, a10 => (if a10 < (hI h 2 1) then
 (bnr (f_X2_get h 2 a10) fun r12 =>
 (bnd (f_X11_shownNow h a7 r12) fun h14 r15 =>
 (if r15 = a8 then
 (nm (a9 ||| ((1 : Int32) <<< (a10 &&& 31))) fun v18 =>
 (f_X11_meant_68 (f_X11_meant_25 n) h14 a7 a8 v18 a10))
 else
 (f_X11_meant_68 (f_X11_meant_25 n) h14 a7 a8 a9 a10))))
 else
 (some (h, a9)))
def f_X11_meant (h : hp) (p0 : Int32) (p1 : Int32) : Option (hp × Int32) := (bnr (f_X11_isSender h p0) fun r1 =>
 (if r1 = 0 then
 (some (h, (-1 : Int32)))
 else
 (bnr (f_X11_isSign h p1) fun r4 =>
 (if r4 = 0 then
 (some (h, (-2 : Int32)))
 else
 (f_X11_meant_25 2000 h p0 p1 (0 : Int32) (0 : Int32))))))
set_option maxRecDepth 100000 in
set_option maxHeartbeats 4000000 in
theorem k_X11_meant_68 {ω : XO} (hω : ω.2.2.2.1 = 1) {κ : XK} (X : XC ω rm_X11_meant 5 κ cX11_meant "SignalBlind") {L : List Nat} {q : Nat → Nat} {h' : hp} {r : Int32} (R : XRet ω rm_X11_meant κ (some .int) L q h' (some (.int r))) (k25 : hp → Int32 → Int32 → Int32 → Int32 → Option (hp × Int32)) (hk25 : ∀ (h : hp) (a7 : Int32) (a8 : Int32) (a9 : Int32) (a10 : Int32), k25 h a7 a8 a9 a10 = some (h', r) → XG ω rm_X11_meant 5 κ L q h 0 0 25 [(0, .ref (q 0)), (1, .int a7), (2, .int a8), (3, .int a9), (4, .int a10)] []) : ∀ (h : hp) (a19 : Int32) (a20 : Int32) (a21 : Int32) (a22 : Int32), f_X11_meant_68 k25 h a19 a20 a21 a22 = some (h', r) → XG ω rm_X11_meant 5 κ L q h 0 0 68 [(0, .ref (q 0)), (1, .int a19), (2, .int a20), (3, .int a21), (4, .int a22)] [] := by
  intro h a19 a20 a21 a22 hf
  unfold f_X11_meant_68 at hf
  obtain ⟨v23, ev23, hf⟩ := nm_some hf
  refine x_iincN X (v := 1) ev23 [(4, .int v23), (0, .ref (q 0)), (1, .int a19), (2, .int a20), (3, .int a21)] dX11_meant_68 4 rfl (by decide) (Nat.le_of_ble_eq_true rfl) rfl ?_
  refine x_goto X 25 dX11_meant_71 (by decide) ?_
  refine x_lv [1, 2, 3, 4, 0] rfl ?_
  exact hk25 h _ _ _ _ hf
set_option maxRecDepth 100000 in
set_option maxHeartbeats 4000000 in
theorem k_X11_meant_25 {ω : XO} (hω : ω.2.2.2.1 = 1) {κ : XK} (X : XC ω rm_X11_meant 5 κ cX11_meant "SignalBlind") {L : List Nat} {q : Nat → Nat} {h' : hp} {r : Int32} (R : XRet ω rm_X11_meant κ (some .int) L q h' (some (.int r))) : ∀ (n : Nat) (h : hp) (a7 : Int32) (a8 : Int32) (a9 : Int32) (a10 : Int32), f_X11_meant_25 n h a7 a8 a9 a10 = some (h', r) → XG ω rm_X11_meant 5 κ L q h 0 0 25 [(0, .ref (q 0)), (1, .int a7), (2, .int a8), (3, .int a9), (4, .int a10)] [] := by
  intro n
  induction n with
  | zero =>
    intro h a7 a8 a9 a10 hf
    have hf : (none : Option (hp × Int32)) = some (h', r) := hf
    cases hf
  | succ n ih =>
    intro h a7 a8 a9 a10 hf
    rw [f_X11_meant_25] at hf
    refine x_iload X dX11_meant_25 4 rfl ?_
    refine x_aload_n X dX11_meant_27 0 rfl rfl ?_
    refine x_getsj X (i := 0) 1 fl_X11_14_12 (sdX_0 hω) (ks_0 _) rfl (j := 1) rfl dX11_meant_28 ?_
    refine x_getsj X (i := 1) 1 fl_X11_77_4 (sdX_1 hω) (ks_1 _) rfl (j := 2) rfl dX11_meant_31 ?_
    refine x_geti X (i := 2) fl_X11_179_3 (sdX_2 hω) (ks_2 _) rfl dX11_meant_34 ?_
    refine x_icmp_ge X 74 dX11_meant_37 (by decide) (fun c11 => ?_) (fun c11 => ?_)
    · replace hf := (if_pos c11).symm.trans hf
      refine x_aload_n X dX11_meant_40 0 rfl rfl ?_
      refine x_iload_n X dX11_meant_41 1 rfl rfl ?_
      refine x_aload_n X dX11_meant_42 0 rfl rfl ?_
      refine x_getsj X (i := 0) 1 fl_X11_14_12 (sdX_0 hω) (ks_0 _) rfl (j := 1) rfl dX11_meant_43 ?_
      refine x_getsj X (i := 1) 1 fl_X11_77_4 (sdX_1 hω) (ks_1 _) rfl (j := 2) rfl dX11_meant_46 ?_
      refine x_iload X dX11_meant_49 4 rfl ?_
      obtain ⟨r12, g13, hf⟩ := bnr_some hf
      refine c_X11_91 X hω g13 (sdX_2 hω) (ks_2 _) (hR := ⟨Nat.le_of_ble_eq_true rfl, Nat.le_of_ble_eq_true rfl⟩) ⟨Nat.zero_le _, Nat.zero_le _⟩ (Nat.le_of_ble_eq_true rfl) dX11_meant_51 ?_
      obtain ⟨h14, r15, g16, hf⟩ := bnd_some hf
      refine c_X11_136 X hω g16 (hR := ⟨Nat.le_of_ble_eq_true rfl, Nat.le_of_ble_eq_true rfl⟩) ⟨Nat.zero_le _, Nat.zero_le _⟩ (Nat.le_of_ble_eq_true rfl) dX11_meant_54 ?_
      refine x_iload_n X dX11_meant_57 2 rfl rfl ?_
      refine x_icmp_ne X 68 dX11_meant_58 (by decide) (fun c17 => ?_) (fun c17 => ?_)
      · replace hf := (if_pos c17).symm.trans hf
        refine x_iload_n X dX11_meant_61 3 rfl rfl ?_
        refine x_iconst X (v := 1) dX11_meant_62 (by decide) ?_
        refine x_iload X dX11_meant_63 4 rfl ?_
        refine x_ishl X dX11_meant_65 ?_
        refine x_ior X dX11_meant_66 ?_
        obtain ⟨v18, ev18, hf⟩ := nm_some hf
        refine x_nmI ev18 ?_
        refine x_istore_n X [(3, .int v18), (0, .ref (q 0)), (1, .int a7), (2, .int a8), (4, .int a10)] dX11_meant_67 rfl (Nat.le_of_ble_eq_true rfl) rfl ?_
        refine x_lv [1, 2, 3, 0, 4] rfl ?_
        exact k_X11_meant_68 hω X R _ ih h14 _ _ _ _ hf
      · replace hf := (if_neg c17).symm.trans hf
        refine x_lv [0, 1, 2, 3, 4] rfl ?_
        exact k_X11_meant_68 hω X R _ ih h14 _ _ _ _ hf
    · replace hf := (if_neg c11).symm.trans hf
      refine x_iload_n X dX11_meant_74 3 rfl rfl ?_
      exact x_retSI X R hf dX11_meant_75
set_option maxRecDepth 100000 in
set_option maxHeartbeats 4000000 in
theorem k_X11_meant {ω : XO} (hω : ω.2.2.2.1 = 1) {L : List Nat} {q : Nat → Nat} {h h' : hp} {p0 : Int32} {p1 : Int32} {r : Int32} (hf : f_X11_meant h p0 p1 = some (h', r)) : XM ω yX11_meant cX11_meant 5 (some .int) rm_X11_meant L q h [.ref (q 0), .int p0, .int p1] (some (.int r)) h' := by
  refine XM_intro [(0, .ref (q 0)), (1, .int p0), (2, .int p1)] "SignalBlind" (by decide) rfl rfl (Nat.le_of_ble_eq_true rfl) (fun κ X R => ?_)
  unfold f_X11_meant at hf
  refine x_aload_n X dX11_meant_0 0 rfl rfl ?_
  refine x_iload_n X dX11_meant_1 1 rfl rfl ?_
  obtain ⟨r1, g2, hf⟩ := bnr_some hf
  refine c_X11_112 X hω g2 (hR := ⟨Nat.le_of_ble_eq_true rfl, Nat.le_of_ble_eq_true rfl⟩) ⟨Nat.zero_le _, Nat.zero_le _⟩ (Nat.le_of_ble_eq_true rfl) dX11_meant_2 ?_
  refine x_if_ne X 10 dX11_meant_5 (by decide) (fun c3 => ?_) (fun c3 => ?_)
  · replace hf := (if_pos c3).symm.trans hf
    refine x_iconst X (v := -1) dX11_meant_8 (by decide) ?_
    exact x_retSI X R hf dX11_meant_9
  · replace hf := (if_neg c3).symm.trans hf
    refine x_iload_n X dX11_meant_10 2 rfl rfl ?_
    obtain ⟨r4, g5, hf⟩ := bnr_some hf
    refine c_X11_73 X hω g5 (hR := ⟨Nat.le_of_ble_eq_true rfl, Nat.le_of_ble_eq_true rfl⟩) ⟨Nat.zero_le _, Nat.zero_le _⟩ (Nat.le_of_ble_eq_true rfl) dX11_meant_11 ?_
    refine x_if_ne X 20 dX11_meant_14 (by decide) (fun c6 => ?_) (fun c6 => ?_)
    · replace hf := (if_pos c6).symm.trans hf
      refine x_bipush X (v := -2) dX11_meant_17 (by decide) ?_
      exact x_retSI X R hf dX11_meant_19
    · replace hf := (if_neg c6).symm.trans hf
      refine x_iconst X (v := 0) dX11_meant_20 (by decide) ?_
      refine x_istore_n X [(3, .int (0 : Int32)), (0, .ref (q 0)), (1, .int p0), (2, .int p1)] dX11_meant_21 rfl (Nat.le_of_ble_eq_true rfl) rfl ?_
      refine x_iconst X (v := 0) dX11_meant_22 (by decide) ?_
      refine x_istore X [(4, .int (0 : Int32)), (3, .int (0 : Int32)), (0, .ref (q 0)), (1, .int p0), (2, .int p1)] dX11_meant_23 (Nat.le_of_ble_eq_true rfl) rfl ?_
      refine x_lv [2, 3, 4, 1, 0] rfl ?_
      exact k_X11_meant_25 hω X R _ h _ _ _ _ hf
theorem mt_X11_meant : MT yX11_meant cX11_meant 5 (some .int) "SignalBlind" 2 := ⟨(mT_3 183 rfl rfl), (mT_3 184 rfl rfl), (mT_1 1 rfl rfl), (mT_3 185 rfl rfl), by decide⟩

abbrev rm_X11_handedOn : Room := { frames := 5, cells := 0, slots := 0, locals := 124 }
def f_X11_handedOn_4 : Nat → hp → Int32 → Int32 → Option (hp × Int32)
  | 0, _, _, _ => none
  | n + 1, h, a1, a2 => (if a2 < (hI h 1 2) then
 (chk a2 5
 (bnd (f_X11_shownNow h (aI h 37 (a2).toNatClampNeg) a1) fun h5 r6 =>
 (nm (a2 + (1 : Int32)) fun v8 =>
 ((f_X11_handedOn_4 n) h5 r6 v8))))
 else
 (some (h, a1)))
def f_X11_handedOn (h : hp) (p0 : Int32) : Option (hp × Int32) := (f_X11_handedOn_4 2000 h p0 (0 : Int32))
set_option maxRecDepth 100000 in
set_option maxHeartbeats 4000000 in
theorem k_X11_handedOn_4 {ω : XO} (hω : ω.2.2.2.1 = 1) {κ : XK} (X : XC ω rm_X11_handedOn 4 κ cX11_handedOn "SignalBlind") {L : List Nat} {q : Nat → Nat} {h' : hp} {r : Int32} (R : XRet ω rm_X11_handedOn κ (some .int) L q h' (some (.int r))) : ∀ (n : Nat) (h : hp) (a1 : Int32) (a2 : Int32), f_X11_handedOn_4 n h a1 a2 = some (h', r) → XG ω rm_X11_handedOn 4 κ L q h 0 0 4 [(0, .ref (q 0)), (2, .int a1), (3, .int a2)] [] := by
  intro n
  induction n with
  | zero =>
    intro h a1 a2 hf
    have hf : (none : Option (hp × Int32)) = some (h', r) := hf
    cases hf
  | succ n ih =>
    intro h a1 a2 hf
    rw [f_X11_handedOn_4] at hf
    refine x_iload_n X dX11_handedOn_4 2 rfl rfl ?_
    refine x_aload_n X dX11_handedOn_5 0 rfl rfl ?_
    refine x_getsj X (i := 0) 1 fl_X11_14_12 (sdX_0 hω) (ks_0 _) rfl (j := 1) rfl dX11_handedOn_6 ?_
    refine x_geti X (i := 1) fl_X11_101_4 (sdX_1 hω) (ks_1 _) rfl dX11_handedOn_9 ?_
    refine x_icmp_ge X 33 dX11_handedOn_12 (by decide) (fun c3 => ?_) (fun c3 => ?_)
    · replace hf := (if_pos c3).symm.trans hf
      refine x_aload_n X dX11_handedOn_15 0 rfl rfl ?_
      refine x_aload_n X dX11_handedOn_16 0 rfl rfl ?_
      refine x_getsj X (i := 0) 37 fl_X11_66_12 (sdX_0 hω) (ks_0 _) rfl (j := 37) rfl dX11_handedOn_17 ?_
      refine x_iload_n X dX11_handedOn_20 2 rfl rfl ?_
      obtain ⟨z4, hf⟩ := chk_some hf
      refine x_iald X (i := 37) (n := 5) (sdX_37 hω) (ks_37 _) z4 dX11_handedOn_21 ?_
      refine x_iload_n X dX11_handedOn_22 1 rfl rfl ?_
      obtain ⟨h5, r6, g7, hf⟩ := bnd_some hf
      refine c_X11_136 X hω g7 (hR := ⟨Nat.le_of_ble_eq_true rfl, Nat.le_of_ble_eq_true rfl⟩) ⟨Nat.zero_le _, Nat.zero_le _⟩ (Nat.le_of_ble_eq_true rfl) dX11_handedOn_23 ?_
      refine x_istore_n X [(2, .int r6), (0, .ref (q 0)), (3, .int a2)] dX11_handedOn_26 rfl (Nat.le_of_ble_eq_true rfl) rfl ?_
      obtain ⟨v8, ev8, hf⟩ := nm_some hf
      refine x_iincN X (v := 1) ev8 [(3, .int v8), (2, .int r6), (0, .ref (q 0))] dX11_handedOn_27 2 rfl (by decide) (Nat.le_of_ble_eq_true rfl) rfl ?_
      refine x_goto X 4 dX11_handedOn_30 (by decide) ?_
      refine x_lv [2, 1, 0] rfl ?_
      exact ih h5 _ _ hf
    · replace hf := (if_neg c3).symm.trans hf
      refine x_iload_n X dX11_handedOn_33 1 rfl rfl ?_
      exact x_retSI X R hf dX11_handedOn_34
set_option maxRecDepth 100000 in
set_option maxHeartbeats 4000000 in
theorem k_X11_handedOn {ω : XO} (hω : ω.2.2.2.1 = 1) {L : List Nat} {q : Nat → Nat} {h h' : hp} {p0 : Int32} {r : Int32} (hf : f_X11_handedOn h p0 = some (h', r)) : XM ω yX11_handedOn cX11_handedOn 4 (some .int) rm_X11_handedOn L q h [.ref (q 0), .int p0] (some (.int r)) h' := by
  refine XM_intro [(0, .ref (q 0)), (1, .int p0)] "SignalBlind" (by decide) rfl rfl (Nat.le_of_ble_eq_true rfl) (fun κ X R => ?_)
  unfold f_X11_handedOn at hf
  refine x_iload_n X dX11_handedOn_0 1 rfl rfl ?_
  refine x_istore_n X [(2, .int p0), (0, .ref (q 0)), (1, .int p0)] dX11_handedOn_1 rfl (Nat.le_of_ble_eq_true rfl) rfl ?_
  refine x_iconst X (v := 0) dX11_handedOn_2 (by decide) ?_
  refine x_istore_n X [(3, .int (0 : Int32)), (2, .int p0), (0, .ref (q 0)), (1, .int p0)] dX11_handedOn_3 rfl (Nat.le_of_ble_eq_true rfl) rfl ?_
  refine x_lv [2, 1, 0] rfl ?_
  exact k_X11_handedOn_4 hω X R _ h _ _ hf
theorem mt_X11_handedOn : MT yX11_handedOn cX11_handedOn 4 (some .int) "SignalBlind" 1 := ⟨(mT_3 196 rfl rfl), (mTp (q := (yX11_handedOn, 12)) (by decide +kernel) rfl), (mT_1 1 rfl rfl), (mT_3 197 rfl rfl), by decide⟩
theorem c_X11_296 {ω : XO} {rm : Room} {nL : Nat} {κ : XK} {cc : ByteArray} (X : XC ω rm nL κ cc "SignalBlind") (hω : ω.2.2.2.1 = 1) {L : List Nat} {q : Nat → Nat} {h h' : hp} {cells slots pc : Nat} {lv : List (Nat × Value)} {rest : List Value} {p0 : Int32} {r : Int32} (hf : f_X11_handedOn h p0 = some (h', r)) (hR : rm_X11_handedOn.frames + 1 ≤ rm.frames ∧ 8 + (4 + 11) + rm_X11_handedOn.locals ≤ rm.locals) (hcs : cells ≤ rm.cells ∧ slots ≤ rm.slots) (hroom : (rest.map fun v => v.category).sum ≤ 8) (hd : decode cc pc = .ok (.invokevirtual 296, 3)) (kk : XG ω rm nL κ L q h' cells slots (pc + 3) lv (.int r :: rest)) : XG ω rm nL κ L q h cells slots pc lv (.int p0 :: .ref (q 0) :: rest) := x_callV X [.int p0] rest (k_X11_handedOn hω hf) mt_X11_handedOn (mT_3 194 rfl rfl) hR ⟨rfl, rfl⟩ hcs (sdX_0 hω) (ks_0 _) (by decide) rfl rfl hroom hd kk

abbrev rm_X11_swapInOrder : Room := { frames := 0, cells := 0, slots := 0, locals := 0 }
def f_X11_swapInOrder (h : hp) (p0 : Int32) (p1 : Int32) : Option (hp × Unit) := (chk p0 5
 (nm (aI h 37 (p0).toNatClampNeg) fun v2 =>
 (chk p1 5
 (chk p0 5
 (nm (tI h 37 (p0).toNatClampNeg (aI h 37 (p1).toNatClampNeg)) fun h5 =>
 (chk p1 5
 (nm (tI h5 37 (p1).toNatClampNeg v2) fun h7 =>
 (some (h7, ())))))))))
set_option maxRecDepth 100000 in
set_option maxHeartbeats 4000000 in
theorem k_X11_swapInOrder {ω : XO} (hω : ω.2.2.2.1 = 1) {L : List Nat} {q : Nat → Nat} {h h' : hp} {p0 : Int32} {p1 : Int32} {r : Unit} (hf : f_X11_swapInOrder h p0 p1 = some (h', r)) : XM ω yX11_swapInOrder cX11_swapInOrder 4 none rm_X11_swapInOrder L q h [.ref (q 0), .int p0, .int p1] none h' := by
  refine XM_intro [(0, .ref (q 0)), (1, .int p0), (2, .int p1)] "SignalBlind" (by decide) rfl rfl (Nat.le_of_ble_eq_true rfl) (fun κ X R => ?_)
  unfold f_X11_swapInOrder at hf
  refine x_aload_n X dX11_swapInOrder_0 0 rfl rfl ?_
  refine x_getsj X (i := 0) 37 fl_X11_66_12 (sdX_0 hω) (ks_0 _) rfl (j := 37) rfl dX11_swapInOrder_1 ?_
  refine x_iload_n X dX11_swapInOrder_4 1 rfl rfl ?_
  obtain ⟨z1, hf⟩ := chk_some hf
  refine x_iald X (i := 37) (n := 5) (sdX_37 hω) (ks_37 _) z1 dX11_swapInOrder_5 ?_
  obtain ⟨v2, ev2, hf⟩ := nm_some hf
  refine x_nmI ev2 ?_
  refine x_istore_n X [(3, .int v2), (0, .ref (q 0)), (1, .int p0), (2, .int p1)] dX11_swapInOrder_6 rfl (Nat.le_of_ble_eq_true rfl) rfl ?_
  refine x_aload_n X dX11_swapInOrder_7 1 rfl rfl ?_
  refine x_getsj X (i := 0) 37 fl_X11_66_12 (sdX_0 hω) (ks_0 _) rfl (j := 37) rfl dX11_swapInOrder_8 ?_
  refine x_iload_n X dX11_swapInOrder_11 2 rfl rfl ?_
  refine x_aload_n X dX11_swapInOrder_12 1 rfl rfl ?_
  refine x_getsj X (i := 0) 37 fl_X11_66_12 (sdX_0 hω) (ks_0 _) rfl (j := 37) rfl dX11_swapInOrder_13 ?_
  refine x_iload_n X dX11_swapInOrder_16 3 rfl rfl ?_
  obtain ⟨z3, hf⟩ := chk_some hf
  refine x_iald X (i := 37) (n := 5) (sdX_37 hω) (ks_37 _) z3 dX11_swapInOrder_17 ?_
  obtain ⟨z4, hf⟩ := chk_some hf
  refine x_iast X (i := 37) (n := 5) (sdX_37 hω) (ks_37 _) z4 dX11_swapInOrder_18 ?_
  obtain ⟨h5, eh5, hf⟩ := nm_some hf
  refine x_nmh eh5 ?_
  refine x_aload_n X dX11_swapInOrder_19 1 rfl rfl ?_
  refine x_getsj X (i := 0) 37 fl_X11_66_12 (sdX_0 hω) (ks_0 _) rfl (j := 37) rfl dX11_swapInOrder_20 ?_
  refine x_iload_n X dX11_swapInOrder_23 3 rfl rfl ?_
  refine x_iload_n X dX11_swapInOrder_24 0 rfl rfl ?_
  obtain ⟨z6, hf⟩ := chk_some hf
  refine x_iast X (i := 37) (n := 5) (sdX_37 hω) (ks_37 _) z6 dX11_swapInOrder_25 ?_
  obtain ⟨h7, eh7, hf⟩ := nm_some hf
  refine x_nmh eh7 ?_
  exact x_retV X R hf dX11_swapInOrder_26
theorem mt_X11_swapInOrder : MT yX11_swapInOrder cX11_swapInOrder 4 none "SignalBlind" 2 := ⟨(mT_3 207 rfl rfl), (mTp (q := (yX11_swapInOrder, 12)) (by decide +kernel) rfl), (mT_1 1 rfl rfl), (mT_3 208 rfl rfl), by decide⟩
theorem c_X11_302 {ω : XO} {rm : Room} {nL : Nat} {κ : XK} {cc : ByteArray} (X : XC ω rm nL κ cc "SignalBlind") (hω : ω.2.2.2.1 = 1) {L : List Nat} {q : Nat → Nat} {h h' : hp} {cells slots pc : Nat} {lv : List (Nat × Value)} {rest : List Value} {p0 : Int32} {p1 : Int32} {r : Unit} (hf : f_X11_swapInOrder h p0 p1 = some (h', r)) (hR : rm_X11_swapInOrder.frames + 1 ≤ rm.frames ∧ 8 + (4 + 11) + rm_X11_swapInOrder.locals ≤ rm.locals) (hcs : cells ≤ rm.cells ∧ slots ≤ rm.slots) (hroom : (rest.map fun v => v.category).sum ≤ 8) (hd : decode cc pc = .ok (.invokevirtual 302, 3)) (kk : XG ω rm nL κ L q h' cells slots (pc + 3) lv (rest)) : XG ω rm nL κ L q h cells slots pc lv (.int p1 :: .int p0 :: .ref (q 0) :: rest) := x_callV X [.int p0, .int p1] rest (k_X11_swapInOrder hω hf) mt_X11_swapInOrder (mT_3 205 rfl rfl) hR ⟨rfl, rfl⟩ hcs (sdX_0 hω) (ks_0 _) (by decide) rfl rfl hroom hd kk

abbrev rm_X11_nextOrder : Room := { frames := 1, cells := 0, slots := 0, locals := 23 }
def f_X11_nextOrder_83 : Nat → hp → Int32 → Int32 → Option (hp × Int32)
  | 0, _, _, _ => none
  | n + 1, h, a24, a25 => (if a25 < a24 then
 (bnd (f_X11_swapInOrder h a25 a24) fun h27 _ =>
 (nm (a24 + (-1 : Int32)) fun v29 =>
 (nm (a25 + (1 : Int32)) fun v30 =>
 ((f_X11_nextOrder_83 n) h27 v29 v30))))
 else
 (some (h, (1 : Int32))))
def f_X11_nextOrder_67 (h : hp) (a17 : Int32) (a18 : Int32) (a19 : Int32) : Option (hp × Int32) := (bnd (f_X11_swapInOrder h a18 a19) fun h20 _ =>
 (nm (a17 - (1 : Int32)) fun v22 =>
 (nm (a18 + (1 : Int32)) fun v23 =>
 (f_X11_nextOrder_83 2000 h20 v22 v23))))
def f_X11_nextOrder_41 : Nat → hp → Int32 → Int32 → Int32 → Option (hp × Int32)
  | 0, _, _, _, _ => none
  | n + 1, h, a9, a10, a11 => (if a10 < a11 then
 (chk a11 5
 (chk a10 5
 (if (aI h 37 (a11).toNatClampNeg) < (aI h 37 (a10).toNatClampNeg) then
 (nm (a11 + (-1 : Int32)) fun v16 =>
 ((f_X11_nextOrder_41 n) h a9 a10 v16))
 else
 (f_X11_nextOrder_67 h a9 a10 a11))))
 else
 (f_X11_nextOrder_67 h a9 a10 a11))
def f_X11_nextOrder_31 (h : hp) (a5 : Int32) (a6 : Int32) : Option (hp × Int32) := (if a6 < 0 then
 (some (h, (0 : Int32)))
 else
 (nm (a5 - (1 : Int32)) fun v8 =>
 (f_X11_nextOrder_41 2000 h a5 a6 v8)))
def f_X11_nextOrder_4 : Nat → hp → Int32 → Int32 → Option (hp × Int32)
  | 0, _, _, _ => none
  | n + 1, h, a2, a3 => (if a3 < 0 then
 (f_X11_nextOrder_31 h a2 a3)
 else
 (chk a3 5
 (chk (a3 + (1 : Int32)) 5
 (if (aI h 37 ((a3 + (1 : Int32))).toNatClampNeg) < (aI h 37 (a3).toNatClampNeg) then
 (nm (a3 + (-1 : Int32)) fun v34 =>
 ((f_X11_nextOrder_4 n) h a2 v34))
 else
 (f_X11_nextOrder_31 h a2 a3)))))
def f_X11_nextOrder (h : hp) (p0 : Int32) : Option (hp × Int32) := (nm (p0 - (2 : Int32)) fun v1 =>
 (f_X11_nextOrder_4 2000 h p0 v1))
set_option maxRecDepth 100000 in
set_option maxHeartbeats 4000000 in
theorem k_X11_nextOrder_83 {ω : XO} (hω : ω.2.2.2.1 = 1) {κ : XK} (X : XC ω rm_X11_nextOrder 6 κ cX11_nextOrder "SignalBlind") {L : List Nat} {q : Nat → Nat} {h' : hp} {r : Int32} (R : XRet ω rm_X11_nextOrder κ (some .boolean) L q h' (some (.int r))) : ∀ (n : Nat) (h : hp) (a24 : Int32) (a25 : Int32), f_X11_nextOrder_83 n h a24 a25 = some (h', r) → XG ω rm_X11_nextOrder 6 κ L q h 0 0 83 [(0, .ref (q 0)), (4, .int a24), (5, .int a25)] [] := by
  intro n
  induction n with
  | zero =>
    intro h a24 a25 hf
    have hf : (none : Option (hp × Int32)) = some (h', r) := hf
    cases hf
  | succ n ih =>
    intro h a24 a25 hf
    rw [f_X11_nextOrder_83] at hf
    refine x_iload X dX11_nextOrder_83 2 rfl ?_
    refine x_iload X dX11_nextOrder_85 1 rfl ?_
    refine x_icmp_ge X 107 dX11_nextOrder_87 (by decide) (fun c26 => ?_) (fun c26 => ?_)
    · replace hf := (if_pos c26).symm.trans hf
      refine x_aload_n X dX11_nextOrder_90 0 rfl rfl ?_
      refine x_iload X dX11_nextOrder_91 2 rfl ?_
      refine x_iload X dX11_nextOrder_93 1 rfl ?_
      obtain ⟨h27, uh27, g28, hf⟩ := bnd_some hf
      refine c_X11_302 X hω g28 (hR := ⟨Nat.le_of_ble_eq_true rfl, Nat.le_of_ble_eq_true rfl⟩) ⟨Nat.zero_le _, Nat.zero_le _⟩ (Nat.le_of_ble_eq_true rfl) dX11_nextOrder_95 ?_
      obtain ⟨v29, ev29, hf⟩ := nm_some hf
      refine x_iincN X (v := -1) ev29 [(4, .int v29), (0, .ref (q 0)), (5, .int a25)] dX11_nextOrder_98 1 rfl (by decide) (Nat.le_of_ble_eq_true rfl) rfl ?_
      obtain ⟨v30, ev30, hf⟩ := nm_some hf
      refine x_iincN X (v := 1) ev30 [(5, .int v30), (4, .int v29), (0, .ref (q 0))] dX11_nextOrder_101 2 rfl (by decide) (Nat.le_of_ble_eq_true rfl) rfl ?_
      refine x_goto X 83 dX11_nextOrder_104 (by decide) ?_
      refine x_lv [2, 1, 0] rfl ?_
      exact ih h27 _ _ hf
    · replace hf := (if_neg c26).symm.trans hf
      refine x_iconst X (v := 1) dX11_nextOrder_107 (by decide) ?_
      exact x_retSZ X R (by decide) hf dX11_nextOrder_108
set_option maxRecDepth 100000 in
set_option maxHeartbeats 4000000 in
theorem k_X11_nextOrder_67 {ω : XO} (hω : ω.2.2.2.1 = 1) {κ : XK} (X : XC ω rm_X11_nextOrder 6 κ cX11_nextOrder "SignalBlind") {L : List Nat} {q : Nat → Nat} {h' : hp} {r : Int32} (R : XRet ω rm_X11_nextOrder κ (some .boolean) L q h' (some (.int r))) : ∀ (h : hp) (a17 : Int32) (a18 : Int32) (a19 : Int32), f_X11_nextOrder_67 h a17 a18 a19 = some (h', r) → XG ω rm_X11_nextOrder 6 κ L q h 0 0 67 [(0, .ref (q 0)), (1, .int a17), (2, .int a18), (3, .int a19)] [] := by
  intro h a17 a18 a19 hf
  unfold f_X11_nextOrder_67 at hf
  refine x_aload_n X dX11_nextOrder_67 0 rfl rfl ?_
  refine x_iload_n X dX11_nextOrder_68 2 rfl rfl ?_
  refine x_iload_n X dX11_nextOrder_69 3 rfl rfl ?_
  obtain ⟨h20, uh20, g21, hf⟩ := bnd_some hf
  refine c_X11_302 X hω g21 (hR := ⟨Nat.le_of_ble_eq_true rfl, Nat.le_of_ble_eq_true rfl⟩) ⟨Nat.zero_le _, Nat.zero_le _⟩ (Nat.le_of_ble_eq_true rfl) dX11_nextOrder_70 ?_
  refine x_iload_n X dX11_nextOrder_73 1 rfl rfl ?_
  refine x_iconst X (v := 1) dX11_nextOrder_74 (by decide) ?_
  refine x_isub X dX11_nextOrder_75 ?_
  obtain ⟨v22, ev22, hf⟩ := nm_some hf
  refine x_nmI ev22 ?_
  refine x_istore X [(4, .int v22), (0, .ref (q 0)), (1, .int a17), (2, .int a18), (3, .int a19)] dX11_nextOrder_76 (Nat.le_of_ble_eq_true rfl) rfl ?_
  refine x_iload_n X dX11_nextOrder_78 3 rfl rfl ?_
  refine x_iconst X (v := 1) dX11_nextOrder_79 (by decide) ?_
  refine x_iadd X dX11_nextOrder_80 ?_
  obtain ⟨v23, ev23, hf⟩ := nm_some hf
  refine x_nmI ev23 ?_
  refine x_istore X [(5, .int v23), (4, .int v22), (0, .ref (q 0)), (1, .int a17), (2, .int a18), (3, .int a19)] dX11_nextOrder_81 (Nat.le_of_ble_eq_true rfl) rfl ?_
  refine x_lv [2, 1, 0] rfl ?_
  exact k_X11_nextOrder_83 hω X R _ h20 _ _ hf
set_option maxRecDepth 100000 in
set_option maxHeartbeats 4000000 in
theorem k_X11_nextOrder_41 {ω : XO} (hω : ω.2.2.2.1 = 1) {κ : XK} (X : XC ω rm_X11_nextOrder 6 κ cX11_nextOrder "SignalBlind") {L : List Nat} {q : Nat → Nat} {h' : hp} {r : Int32} (R : XRet ω rm_X11_nextOrder κ (some .boolean) L q h' (some (.int r))) : ∀ (n : Nat) (h : hp) (a9 : Int32) (a10 : Int32) (a11 : Int32), f_X11_nextOrder_41 n h a9 a10 a11 = some (h', r) → XG ω rm_X11_nextOrder 6 κ L q h 0 0 41 [(0, .ref (q 0)), (1, .int a9), (2, .int a10), (3, .int a11)] [] := by
  intro n
  induction n with
  | zero =>
    intro h a9 a10 a11 hf
    have hf : (none : Option (hp × Int32)) = some (h', r) := hf
    cases hf
  | succ n ih =>
    intro h a9 a10 a11 hf
    rw [f_X11_nextOrder_41] at hf
    refine x_iload_n X dX11_nextOrder_41 3 rfl rfl ?_
    refine x_iload_n X dX11_nextOrder_42 2 rfl rfl ?_
    refine x_icmp_le X 67 dX11_nextOrder_43 (by decide) (fun c12 => ?_) (fun c12 => ?_)
    · replace hf := (if_pos c12).symm.trans hf
      refine x_aload_n X dX11_nextOrder_46 0 rfl rfl ?_
      refine x_getsj X (i := 0) 37 fl_X11_66_12 (sdX_0 hω) (ks_0 _) rfl (j := 37) rfl dX11_nextOrder_47 ?_
      refine x_iload_n X dX11_nextOrder_50 3 rfl rfl ?_
      obtain ⟨z13, hf⟩ := chk_some hf
      refine x_iald X (i := 37) (n := 5) (sdX_37 hω) (ks_37 _) z13 dX11_nextOrder_51 ?_
      refine x_aload_n X dX11_nextOrder_52 0 rfl rfl ?_
      refine x_getsj X (i := 0) 37 fl_X11_66_12 (sdX_0 hω) (ks_0 _) rfl (j := 37) rfl dX11_nextOrder_53 ?_
      refine x_iload_n X dX11_nextOrder_56 2 rfl rfl ?_
      obtain ⟨z14, hf⟩ := chk_some hf
      refine x_iald X (i := 37) (n := 5) (sdX_37 hω) (ks_37 _) z14 dX11_nextOrder_57 ?_
      refine x_icmp_ge X 67 dX11_nextOrder_58 (by decide) (fun c15 => ?_) (fun c15 => ?_)
      · replace hf := (if_pos c15).symm.trans hf
        obtain ⟨v16, ev16, hf⟩ := nm_some hf
        refine x_iincN X (v := -1) ev16 [(3, .int v16), (0, .ref (q 0)), (1, .int a9), (2, .int a10)] dX11_nextOrder_61 3 rfl (by decide) (Nat.le_of_ble_eq_true rfl) rfl ?_
        refine x_goto X 41 dX11_nextOrder_64 (by decide) ?_
        refine x_lv [1, 2, 3, 0] rfl ?_
        exact ih h _ _ _ hf
      · replace hf := (if_neg c15).symm.trans hf
        refine x_lv [0, 1, 2, 3] rfl ?_
        exact k_X11_nextOrder_67 hω X R h _ _ _ hf
    · replace hf := (if_neg c12).symm.trans hf
      refine x_lv [0, 1, 2, 3] rfl ?_
      exact k_X11_nextOrder_67 hω X R h _ _ _ hf
set_option maxRecDepth 100000 in
set_option maxHeartbeats 4000000 in
theorem k_X11_nextOrder_31 {ω : XO} (hω : ω.2.2.2.1 = 1) {κ : XK} (X : XC ω rm_X11_nextOrder 6 κ cX11_nextOrder "SignalBlind") {L : List Nat} {q : Nat → Nat} {h' : hp} {r : Int32} (R : XRet ω rm_X11_nextOrder κ (some .boolean) L q h' (some (.int r))) : ∀ (h : hp) (a5 : Int32) (a6 : Int32), f_X11_nextOrder_31 h a5 a6 = some (h', r) → XG ω rm_X11_nextOrder 6 κ L q h 0 0 31 [(0, .ref (q 0)), (1, .int a5), (2, .int a6)] [] := by
  intro h a5 a6 hf
  unfold f_X11_nextOrder_31 at hf
  refine x_iload_n X dX11_nextOrder_31 2 rfl rfl ?_
  refine x_if_ge X 37 dX11_nextOrder_32 (by decide) (fun c7 => ?_) (fun c7 => ?_)
  · replace hf := (if_pos c7).symm.trans hf
    refine x_iconst X (v := 0) dX11_nextOrder_35 (by decide) ?_
    exact x_retSZ X R (by decide) hf dX11_nextOrder_36
  · replace hf := (if_neg c7).symm.trans hf
    refine x_iload_n X dX11_nextOrder_37 1 rfl rfl ?_
    refine x_iconst X (v := 1) dX11_nextOrder_38 (by decide) ?_
    refine x_isub X dX11_nextOrder_39 ?_
    obtain ⟨v8, ev8, hf⟩ := nm_some hf
    refine x_nmI ev8 ?_
    refine x_istore_n X [(3, .int v8), (0, .ref (q 0)), (1, .int a5), (2, .int a6)] dX11_nextOrder_40 rfl (Nat.le_of_ble_eq_true rfl) rfl ?_
    refine x_lv [1, 2, 3, 0] rfl ?_
    exact k_X11_nextOrder_41 hω X R _ h _ _ _ hf
set_option maxRecDepth 100000 in
set_option maxHeartbeats 4000000 in
theorem k_X11_nextOrder_4 {ω : XO} (hω : ω.2.2.2.1 = 1) {κ : XK} (X : XC ω rm_X11_nextOrder 6 κ cX11_nextOrder "SignalBlind") {L : List Nat} {q : Nat → Nat} {h' : hp} {r : Int32} (R : XRet ω rm_X11_nextOrder κ (some .boolean) L q h' (some (.int r))) : ∀ (n : Nat) (h : hp) (a2 : Int32) (a3 : Int32), f_X11_nextOrder_4 n h a2 a3 = some (h', r) → XG ω rm_X11_nextOrder 6 κ L q h 0 0 4 [(0, .ref (q 0)), (1, .int a2), (2, .int a3)] [] := by
  intro n
  induction n with
  | zero =>
    intro h a2 a3 hf
    have hf : (none : Option (hp × Int32)) = some (h', r) := hf
    cases hf
  | succ n ih =>
    intro h a2 a3 hf
    rw [f_X11_nextOrder_4] at hf
    refine x_iload_n X dX11_nextOrder_4 2 rfl rfl ?_
    refine x_if_lt X 31 dX11_nextOrder_5 (by decide) (fun c4 => ?_) (fun c4 => ?_)
    · replace hf := (if_pos c4).symm.trans hf
      refine x_lv [0, 1, 2] rfl ?_
      exact k_X11_nextOrder_31 hω X R h _ _ hf
    · replace hf := (if_neg c4).symm.trans hf
      refine x_aload_n X dX11_nextOrder_8 0 rfl rfl ?_
      refine x_getsj X (i := 0) 37 fl_X11_66_12 (sdX_0 hω) (ks_0 _) rfl (j := 37) rfl dX11_nextOrder_9 ?_
      refine x_iload_n X dX11_nextOrder_12 2 rfl rfl ?_
      obtain ⟨z31, hf⟩ := chk_some hf
      refine x_iald X (i := 37) (n := 5) (sdX_37 hω) (ks_37 _) z31 dX11_nextOrder_13 ?_
      refine x_aload_n X dX11_nextOrder_14 0 rfl rfl ?_
      refine x_getsj X (i := 0) 37 fl_X11_66_12 (sdX_0 hω) (ks_0 _) rfl (j := 37) rfl dX11_nextOrder_15 ?_
      refine x_iload_n X dX11_nextOrder_18 2 rfl rfl ?_
      refine x_iconst X (v := 1) dX11_nextOrder_19 (by decide) ?_
      refine x_iadd X dX11_nextOrder_20 ?_
      obtain ⟨z32, hf⟩ := chk_some hf
      refine x_iald X (i := 37) (n := 5) (sdX_37 hω) (ks_37 _) z32 dX11_nextOrder_21 ?_
      refine x_icmp_le X 31 dX11_nextOrder_22 (by decide) (fun c33 => ?_) (fun c33 => ?_)
      · replace hf := (if_pos c33).symm.trans hf
        obtain ⟨v34, ev34, hf⟩ := nm_some hf
        refine x_iincN X (v := -1) ev34 [(2, .int v34), (0, .ref (q 0)), (1, .int a2)] dX11_nextOrder_25 2 rfl (by decide) (Nat.le_of_ble_eq_true rfl) rfl ?_
        refine x_goto X 4 dX11_nextOrder_28 (by decide) ?_
        refine x_lv [1, 2, 0] rfl ?_
        exact ih h _ _ hf
      · replace hf := (if_neg c33).symm.trans hf
        refine x_lv [0, 1, 2] rfl ?_
        exact k_X11_nextOrder_31 hω X R h _ _ hf
set_option maxRecDepth 100000 in
set_option maxHeartbeats 4000000 in
theorem k_X11_nextOrder {ω : XO} (hω : ω.2.2.2.1 = 1) {L : List Nat} {q : Nat → Nat} {h h' : hp} {p0 : Int32} {r : Int32} (hf : f_X11_nextOrder h p0 = some (h', r)) : XM ω yX11_nextOrder cX11_nextOrder 6 (some .boolean) rm_X11_nextOrder L q h [.ref (q 0), .int p0] (some (.int r)) h' := by
  refine XM_intro [(0, .ref (q 0)), (1, .int p0)] "SignalBlind" (by decide) rfl rfl (Nat.le_of_ble_eq_true rfl) (fun κ X R => ?_)
  unfold f_X11_nextOrder at hf
  refine x_iload_n X dX11_nextOrder_0 1 rfl rfl ?_
  refine x_iconst X (v := 2) dX11_nextOrder_1 (by decide) ?_
  refine x_isub X dX11_nextOrder_2 ?_
  obtain ⟨v1, ev1, hf⟩ := nm_some hf
  refine x_nmI ev1 ?_
  refine x_istore_n X [(2, .int v1), (0, .ref (q 0)), (1, .int p0)] dX11_nextOrder_3 rfl (Nat.le_of_ble_eq_true rfl) rfl ?_
  refine x_lv [1, 2, 0] rfl ?_
  exact k_X11_nextOrder_4 hω X R _ h _ _ hf
theorem mt_X11_nextOrder : MT yX11_nextOrder cX11_nextOrder 6 (some .boolean) "SignalBlind" 1 := ⟨(mT_3 203 rfl rfl), (mTp (q := (yX11_nextOrder, 12)) (by decide +kernel) rfl), (mT_1 1 rfl rfl), (mT_3 204 rfl rfl), by decide⟩
theorem c_X11_299 {ω : XO} {rm : Room} {nL : Nat} {κ : XK} {cc : ByteArray} (X : XC ω rm nL κ cc "SignalBlind") (hω : ω.2.2.2.1 = 1) {L : List Nat} {q : Nat → Nat} {h h' : hp} {cells slots pc : Nat} {lv : List (Nat × Value)} {rest : List Value} {p0 : Int32} {r : Int32} (hf : f_X11_nextOrder h p0 = some (h', r)) (hR : rm_X11_nextOrder.frames + 1 ≤ rm.frames ∧ 8 + (6 + 11) + rm_X11_nextOrder.locals ≤ rm.locals) (hcs : cells ≤ rm.cells ∧ slots ≤ rm.slots) (hroom : (rest.map fun v => v.category).sum ≤ 8) (hd : decode cc pc = .ok (.invokevirtual 299, 3)) (kk : XG ω rm nL κ L q h' cells slots (pc + 3) lv (.int r :: rest)) : XG ω rm nL κ L q h cells slots pc lv (.int p0 :: .ref (q 0) :: rest) := x_callV X [.int p0] rest (k_X11_nextOrder hω hf) mt_X11_nextOrder (mT_3 201 rfl rfl) hR ⟨rfl, rfl⟩ hcs (sdX_0 hω) (ks_0 _) (by decide) rfl rfl hroom hd kk

abbrev rm_X11_leastPassed : Room := { frames := 6, cells := 0, slots := 0, locals := 147 }
def f_X11_leastPassed_91 (h : hp) (a13 : Int32) : Option (hp × Int32) := (some (h, a13))
def f_X11_leastPassed_73 (k28 : hp → Int32 → Int32 → Int32 → Int32 → Option (hp × Int32)) (h : hp) (a22 : Int32) (a23 : Int32) (a24 : Int32) : Option (hp × Int32) := (bnd (f_X11_nextOrder h (hI h 1 2)) fun h25 r26 =>
 (nm (a24 + (1 : Int32)) fun v28 =>
 (k28 h25 a22 a23 r26 v28)))
def f_X11_leastPassed_28 : Nat → hp → Int32 → Int32 → Int32 → Int32 → Option (hp × Int32)
  | 0, _, _, _, _, _ => none
  | n + 1, h, a7, a8, a9, a10 => (if a10 < (120 : Int32) then
 (if a9 = 0 then
 (f_X11_leastPassed_91 h a8)
 else
 (bnd (f_X11_handedOn h a7) fun h14 r15 =>
 (bnr (f_X11_apart h14 a7 r15) fun r17 =>
 (if r17 < a8 then
 (ckC (0 : Int32) (0 : Int32) (5 : Int32) 5 5
 (nm (cpI h14 37 38 ((0 : Int32)).toNatClampNeg ((0 : Int32)).toNatClampNeg ((5 : Int32)).toNatClampNeg) fun h21 =>
 (f_X11_leastPassed_73 (f_X11_leastPassed_28 n) h21 a7 r17 a10)))
 else
 (f_X11_leastPassed_73 (f_X11_leastPassed_28 n) h14 a7 a8 a10)))))
 else
 (f_X11_leastPassed_91 h a8))
def f_X11_leastPassed_2 : Nat → hp → Int32 → Int32 → Option (hp × Int32)
  | 0, _, _, _ => none
  | n + 1, h, a1, a2 => (if a2 < (5 : Int32) then
 (chk a2 5
 (nm (tI h 37 (a2).toNatClampNeg a2) fun h5 =>
 (nm (a2 + (1 : Int32)) fun v6 =>
 ((f_X11_leastPassed_2 n) h5 a1 v6))))
 else
 (f_X11_leastPassed_28 2000 h a1 (11 : Int32) (1 : Int32) (0 : Int32)))
def f_X11_leastPassed (h : hp) (p0 : Int32) : Option (hp × Int32) := (f_X11_leastPassed_2 2000 h p0 (0 : Int32))
set_option maxRecDepth 100000 in
set_option maxHeartbeats 4000000 in
theorem k_X11_leastPassed_91 {ω : XO} (hω : ω.2.2.2.1 = 1) {κ : XK} (X : XC ω rm_X11_leastPassed 6 κ cX11_leastPassed "SignalBlind") {L : List Nat} {q : Nat → Nat} {h' : hp} {r : Int32} (R : XRet ω rm_X11_leastPassed κ (some .int) L q h' (some (.int r))) : ∀ (h : hp) (a13 : Int32), f_X11_leastPassed_91 h a13 = some (h', r) → XG ω rm_X11_leastPassed 6 κ L q h 0 0 91 [(2, .int a13)] [] := by
  intro h a13 hf
  unfold f_X11_leastPassed_91 at hf
  refine x_iload_n X dX11_leastPassed_91 0 rfl rfl ?_
  exact x_retSI X R hf dX11_leastPassed_92
set_option maxRecDepth 100000 in
set_option maxHeartbeats 4000000 in
theorem k_X11_leastPassed_73 {ω : XO} (hω : ω.2.2.2.1 = 1) {κ : XK} (X : XC ω rm_X11_leastPassed 6 κ cX11_leastPassed "SignalBlind") {L : List Nat} {q : Nat → Nat} {h' : hp} {r : Int32} (R : XRet ω rm_X11_leastPassed κ (some .int) L q h' (some (.int r))) (k28 : hp → Int32 → Int32 → Int32 → Int32 → Option (hp × Int32)) (hk28 : ∀ (h : hp) (a7 : Int32) (a8 : Int32) (a9 : Int32) (a10 : Int32), k28 h a7 a8 a9 a10 = some (h', r) → XG ω rm_X11_leastPassed 6 κ L q h 0 0 28 [(0, .ref (q 0)), (1, .int a7), (2, .int a8), (3, .int a9), (4, .int a10)] []) : ∀ (h : hp) (a22 : Int32) (a23 : Int32) (a24 : Int32), f_X11_leastPassed_73 k28 h a22 a23 a24 = some (h', r) → XG ω rm_X11_leastPassed 6 κ L q h 0 0 73 [(0, .ref (q 0)), (1, .int a22), (2, .int a23), (4, .int a24)] [] := by
  intro h a22 a23 a24 hf
  unfold f_X11_leastPassed_73 at hf
  refine x_aload_n X dX11_leastPassed_73 0 rfl rfl ?_
  refine x_aload_n X dX11_leastPassed_74 0 rfl rfl ?_
  refine x_getsj X (i := 0) 1 fl_X11_14_12 (sdX_0 hω) (ks_0 _) rfl (j := 1) rfl dX11_leastPassed_75 ?_
  refine x_geti X (i := 1) fl_X11_101_4 (sdX_1 hω) (ks_1 _) rfl dX11_leastPassed_78 ?_
  obtain ⟨h25, r26, g27, hf⟩ := bnd_some hf
  refine c_X11_299 X hω g27 (hR := ⟨Nat.le_of_ble_eq_true rfl, Nat.le_of_ble_eq_true rfl⟩) ⟨Nat.zero_le _, Nat.zero_le _⟩ (Nat.le_of_ble_eq_true rfl) dX11_leastPassed_81 ?_
  refine x_istore_n X [(3, .int r26), (0, .ref (q 0)), (1, .int a22), (2, .int a23), (4, .int a24)] dX11_leastPassed_84 rfl (Nat.le_of_ble_eq_true rfl) rfl ?_
  obtain ⟨v28, ev28, hf⟩ := nm_some hf
  refine x_iincN X (v := 1) ev28 [(4, .int v28), (3, .int r26), (0, .ref (q 0)), (1, .int a22), (2, .int a23)] dX11_leastPassed_85 4 rfl (by decide) (Nat.le_of_ble_eq_true rfl) rfl ?_
  refine x_goto X 28 dX11_leastPassed_88 (by decide) ?_
  refine x_lv [2, 3, 4, 1, 0] rfl ?_
  exact hk28 h25 _ _ _ _ hf
set_option maxRecDepth 100000 in
set_option maxHeartbeats 4000000 in
theorem k_X11_leastPassed_28 {ω : XO} (hω : ω.2.2.2.1 = 1) {κ : XK} (X : XC ω rm_X11_leastPassed 6 κ cX11_leastPassed "SignalBlind") {L : List Nat} {q : Nat → Nat} {h' : hp} {r : Int32} (R : XRet ω rm_X11_leastPassed κ (some .int) L q h' (some (.int r))) : ∀ (n : Nat) (h : hp) (a7 : Int32) (a8 : Int32) (a9 : Int32) (a10 : Int32), f_X11_leastPassed_28 n h a7 a8 a9 a10 = some (h', r) → XG ω rm_X11_leastPassed 6 κ L q h 0 0 28 [(0, .ref (q 0)), (1, .int a7), (2, .int a8), (3, .int a9), (4, .int a10)] [] := by
  intro n
  induction n with
  | zero =>
    intro h a7 a8 a9 a10 hf
    have hf : (none : Option (hp × Int32)) = some (h', r) := hf
    cases hf
  | succ n ih =>
    intro h a7 a8 a9 a10 hf
    rw [f_X11_leastPassed_28] at hf
    refine x_iload X dX11_leastPassed_28 4 rfl ?_
    refine x_bipush X (v := 120) dX11_leastPassed_30 (by decide) ?_
    refine x_icmp_ge X 91 dX11_leastPassed_32 (by decide) (fun c11 => ?_) (fun c11 => ?_)
    · replace hf := (if_pos c11).symm.trans hf
      refine x_iload_n X dX11_leastPassed_35 3 rfl rfl ?_
      refine x_if_eq X 91 dX11_leastPassed_36 (by decide) (fun c12 => ?_) (fun c12 => ?_)
      · replace hf := (if_pos c12).symm.trans hf
        refine x_lv [2] rfl ?_
        exact k_X11_leastPassed_91 hω X R h _ hf
      · replace hf := (if_neg c12).symm.trans hf
        refine x_iload_n X dX11_leastPassed_39 1 rfl rfl ?_
        refine x_aload_n X dX11_leastPassed_40 0 rfl rfl ?_
        refine x_iload_n X dX11_leastPassed_41 1 rfl rfl ?_
        obtain ⟨h14, r15, g16, hf⟩ := bnd_some hf
        refine c_X11_296 X hω g16 (hR := ⟨Nat.le_of_ble_eq_true rfl, Nat.le_of_ble_eq_true rfl⟩) ⟨Nat.zero_le _, Nat.zero_le _⟩ (Nat.le_of_ble_eq_true rfl) dX11_leastPassed_42 ?_
        obtain ⟨r17, g18, hf⟩ := bnr_some hf
        refine c_X11_282 X hω g18 (hR := ⟨Nat.le_of_ble_eq_true rfl, Nat.le_of_ble_eq_true rfl⟩) ⟨Nat.zero_le _, Nat.zero_le _⟩ (Nat.le_of_ble_eq_true rfl) dX11_leastPassed_45 ?_
        refine x_istore X [(5, .int r17), (0, .ref (q 0)), (1, .int a7), (2, .int a8), (3, .int a9), (4, .int a10)] dX11_leastPassed_48 (Nat.le_of_ble_eq_true rfl) rfl ?_
        refine x_iload X dX11_leastPassed_50 0 rfl ?_
        refine x_iload_n X dX11_leastPassed_52 3 rfl rfl ?_
        refine x_icmp_ge X 73 dX11_leastPassed_53 (by decide) (fun c19 => ?_) (fun c19 => ?_)
        · replace hf := (if_pos c19).symm.trans hf
          refine x_iload X dX11_leastPassed_56 0 rfl ?_
          refine x_istore_n X [(2, .int r17), (5, .int r17), (0, .ref (q 0)), (1, .int a7), (3, .int a9), (4, .int a10)] dX11_leastPassed_58 rfl (Nat.le_of_ble_eq_true rfl) rfl ?_
          refine x_aload_n X dX11_leastPassed_59 2 rfl rfl ?_
          refine x_getsj X (i := 0) 37 fl_X11_66_12 (sdX_0 hω) (ks_0 _) rfl (j := 37) rfl dX11_leastPassed_60 ?_
          refine x_iconst X (v := 0) dX11_leastPassed_63 (by decide) ?_
          refine x_aload_n X dX11_leastPassed_64 2 rfl rfl ?_
          refine x_getsj X (i := 0) 38 fl_X11_69_12 (sdX_0 hω) (ks_0 _) rfl (j := 38) rfl dX11_leastPassed_65 ?_
          refine x_iconst X (v := 0) dX11_leastPassed_68 (by decide) ?_
          refine x_iconst X (v := 5) dX11_leastPassed_69 (by decide) ?_
          obtain ⟨b20, hf⟩ := ckC_some hf
          refine x_copyI_X11_267 X (i := 37) (j := 38) (n0 := 5) (n1 := 5) (sdX_37 hω) (ks_37 _) (sdX_38 hω) (ks_38 _) b20 (Nat.le_of_ble_eq_true rfl) (by decide +kernel) dX11_leastPassed_70 ?_
          obtain ⟨h21, eh21, hf⟩ := nm_some hf
          refine x_nmh eh21 ?_
          refine x_lv [2, 3, 0, 5] rfl ?_
          exact k_X11_leastPassed_73 hω X R _ ih h21 _ _ _ hf
        · replace hf := (if_neg c19).symm.trans hf
          refine x_lv [1, 2, 3, 5] rfl ?_
          exact k_X11_leastPassed_73 hω X R _ ih h14 _ _ _ hf
    · replace hf := (if_neg c11).symm.trans hf
      refine x_lv [2] rfl ?_
      exact k_X11_leastPassed_91 hω X R h _ hf
set_option maxRecDepth 100000 in
set_option maxHeartbeats 4000000 in
theorem k_X11_leastPassed_2 {ω : XO} (hω : ω.2.2.2.1 = 1) {κ : XK} (X : XC ω rm_X11_leastPassed 6 κ cX11_leastPassed "SignalBlind") {L : List Nat} {q : Nat → Nat} {h' : hp} {r : Int32} (R : XRet ω rm_X11_leastPassed κ (some .int) L q h' (some (.int r))) : ∀ (n : Nat) (h : hp) (a1 : Int32) (a2 : Int32), f_X11_leastPassed_2 n h a1 a2 = some (h', r) → XG ω rm_X11_leastPassed 6 κ L q h 0 0 2 [(0, .ref (q 0)), (1, .int a1), (2, .int a2)] [] := by
  intro n
  induction n with
  | zero =>
    intro h a1 a2 hf
    have hf : (none : Option (hp × Int32)) = some (h', r) := hf
    cases hf
  | succ n ih =>
    intro h a1 a2 hf
    rw [f_X11_leastPassed_2] at hf
    refine x_iload_n X dX11_leastPassed_2 2 rfl rfl ?_
    refine x_iconst X (v := 5) dX11_leastPassed_3 (by decide) ?_
    refine x_icmp_ge X 20 dX11_leastPassed_4 (by decide) (fun c3 => ?_) (fun c3 => ?_)
    · replace hf := (if_pos c3).symm.trans hf
      refine x_aload_n X dX11_leastPassed_7 0 rfl rfl ?_
      refine x_getsj X (i := 0) 37 fl_X11_66_12 (sdX_0 hω) (ks_0 _) rfl (j := 37) rfl dX11_leastPassed_8 ?_
      refine x_iload_n X dX11_leastPassed_11 2 rfl rfl ?_
      refine x_iload_n X dX11_leastPassed_12 2 rfl rfl ?_
      obtain ⟨z4, hf⟩ := chk_some hf
      refine x_iast X (i := 37) (n := 5) (sdX_37 hω) (ks_37 _) z4 dX11_leastPassed_13 ?_
      obtain ⟨h5, eh5, hf⟩ := nm_some hf
      refine x_nmh eh5 ?_
      obtain ⟨v6, ev6, hf⟩ := nm_some hf
      refine x_iincN X (v := 1) ev6 [(2, .int v6), (0, .ref (q 0)), (1, .int a1)] dX11_leastPassed_14 2 rfl (by decide) (Nat.le_of_ble_eq_true rfl) rfl ?_
      refine x_goto X 2 dX11_leastPassed_17 (by decide) ?_
      refine x_lv [1, 2, 0] rfl ?_
      exact ih h5 _ _ hf
    · replace hf := (if_neg c3).symm.trans hf
      refine x_bipush X (v := 11) dX11_leastPassed_20 (by decide) ?_
      refine x_istore_n X [(2, .int (11 : Int32)), (0, .ref (q 0)), (1, .int a1)] dX11_leastPassed_22 rfl (Nat.le_of_ble_eq_true rfl) rfl ?_
      refine x_iconst X (v := 1) dX11_leastPassed_23 (by decide) ?_
      refine x_istore_n X [(3, .int (1 : Int32)), (2, .int (11 : Int32)), (0, .ref (q 0)), (1, .int a1)] dX11_leastPassed_24 rfl (Nat.le_of_ble_eq_true rfl) rfl ?_
      refine x_iconst X (v := 0) dX11_leastPassed_25 (by decide) ?_
      refine x_istore X [(4, .int (0 : Int32)), (3, .int (1 : Int32)), (2, .int (11 : Int32)), (0, .ref (q 0)), (1, .int a1)] dX11_leastPassed_26 (Nat.le_of_ble_eq_true rfl) rfl ?_
      refine x_lv [3, 4, 2, 1, 0] rfl ?_
      exact k_X11_leastPassed_28 hω X R _ h _ _ _ _ hf
set_option maxRecDepth 100000 in
set_option maxHeartbeats 4000000 in
theorem k_X11_leastPassed {ω : XO} (hω : ω.2.2.2.1 = 1) {L : List Nat} {q : Nat → Nat} {h h' : hp} {p0 : Int32} {r : Int32} (hf : f_X11_leastPassed h p0 = some (h', r)) : XM ω yX11_leastPassed cX11_leastPassed 6 (some .int) rm_X11_leastPassed L q h [.ref (q 0), .int p0] (some (.int r)) h' := by
  refine XM_intro [(0, .ref (q 0)), (1, .int p0)] "SignalBlind" (by decide) rfl rfl (Nat.le_of_ble_eq_true rfl) (fun κ X R => ?_)
  unfold f_X11_leastPassed at hf
  refine x_iconst X (v := 0) dX11_leastPassed_0 (by decide) ?_
  refine x_istore_n X [(2, .int (0 : Int32)), (0, .ref (q 0)), (1, .int p0)] dX11_leastPassed_1 rfl (Nat.le_of_ble_eq_true rfl) rfl ?_
  refine x_lv [1, 2, 0] rfl ?_
  exact k_X11_leastPassed_2 hω X R _ h _ _ hf
theorem mt_X11_leastPassed : MT yX11_leastPassed cX11_leastPassed 6 (some .int) "SignalBlind" 1 := ⟨(mT_3 192 rfl rfl), (mTp (q := (yX11_leastPassed, 12)) (by decide +kernel) rfl), (mT_1 1 rfl rfl), (mT_3 193 rfl rfl), by decide⟩
theorem c_X11_182 {ω : XO} {rm : Room} {nL : Nat} {κ : XK} {cc : ByteArray} (X : XC ω rm nL κ cc "SignalBlind") (hω : ω.2.2.2.1 = 1) {L : List Nat} {q : Nat → Nat} {h h' : hp} {cells slots pc : Nat} {lv : List (Nat × Value)} {rest : List Value} {p0 : Int32} {r : Int32} (hf : f_X11_leastPassed h p0 = some (h', r)) (hR : rm_X11_leastPassed.frames + 1 ≤ rm.frames ∧ 8 + (6 + 11) + rm_X11_leastPassed.locals ≤ rm.locals) (hcs : cells ≤ rm.cells ∧ slots ≤ rm.slots) (hroom : (rest.map fun v => v.category).sum ≤ 8) (hd : decode cc pc = .ok (.invokevirtual 182, 3)) (kk : XG ω rm nL κ L q h' cells slots (pc + 3) lv (.int r :: rest)) : XG ω rm nL κ L q h cells slots pc lv (.int p0 :: .ref (q 0) :: rest) := x_callV X [.int p0] rest (k_X11_leastPassed hω hf) mt_X11_leastPassed (mT_3 190 rfl rfl) hR ⟨rfl, rfl⟩ hcs (sdX_0 hω) (ks_0 _) (by decide) rfl rfl hroom hd kk

abbrev rm_X11_passed : Room := { frames := 7, cells := 0, slots := 0, locals := 172 }
def f_X11_passed_18 (h : hp) : Option (hp × Int32) := (some (h, (-1 : Int32)))
def f_X11_passed_64 (h : hp) (a13 : Int32) : Option (hp × Int32) := (some (h, a13))
def f_X11_passed (h : hp) (p0 : Int32) (p1 : Int32) : Option (hp × Int32) := (bnr (f_X11_isWord h p0) fun r1 =>
 (if r1 = 0 then
 (f_X11_passed_18 h)
 else
 (if p1 < (-1 : Int32) then
 (f_X11_passed_18 h)
 else
 (if p1 < (5 : Int32) then
 (if p1 < (hI h 1 2) then
 (bnr (f_X2_get h 2 p0) fun r7 =>
 (bnd (f_X11_leastPassed h r7) fun h9 r10 =>
 (if p1 < 0 then
 (f_X11_passed_64 h9 r10)
 else
 (chk p1 5
 (f_X11_passed_64 h9 (aI h9 38 (p1).toNatClampNeg))))))
 else
 (some (h, (-5 : Int32))))
 else
 (f_X11_passed_18 h)))))
set_option maxRecDepth 100000 in
set_option maxHeartbeats 4000000 in
theorem k_X11_passed_18 {ω : XO} (hω : ω.2.2.2.1 = 1) {κ : XK} (X : XC ω rm_X11_passed 4 κ cX11_passed "SignalBlind") {L : List Nat} {q : Nat → Nat} {h' : hp} {r : Int32} (R : XRet ω rm_X11_passed κ (some .int) L q h' (some (.int r))) : ∀ (h : hp), f_X11_passed_18 h = some (h', r) → XG ω rm_X11_passed 4 κ L q h 0 0 18 [] [] := by
  intro h hf
  unfold f_X11_passed_18 at hf
  refine x_iconst X (v := -1) dX11_passed_18 (by decide) ?_
  exact x_retSI X R hf dX11_passed_19
set_option maxRecDepth 100000 in
set_option maxHeartbeats 4000000 in
theorem k_X11_passed_64 {ω : XO} (hω : ω.2.2.2.1 = 1) {κ : XK} (X : XC ω rm_X11_passed 4 κ cX11_passed "SignalBlind") {L : List Nat} {q : Nat → Nat} {h' : hp} {r : Int32} (R : XRet ω rm_X11_passed κ (some .int) L q h' (some (.int r))) : ∀ (h : hp) (a13 : Int32), f_X11_passed_64 h a13 = some (h', r) → XG ω rm_X11_passed 4 κ L q h 0 0 64 [] [.int a13] := by
  intro h a13 hf
  unfold f_X11_passed_64 at hf
  exact x_retSI X R hf dX11_passed_64
set_option maxRecDepth 100000 in
set_option maxHeartbeats 4000000 in
theorem k_X11_passed {ω : XO} (hω : ω.2.2.2.1 = 1) {L : List Nat} {q : Nat → Nat} {h h' : hp} {p0 : Int32} {p1 : Int32} {r : Int32} (hf : f_X11_passed h p0 p1 = some (h', r)) : XM ω yX11_passed cX11_passed 4 (some .int) rm_X11_passed L q h [.ref (q 0), .int p0, .int p1] (some (.int r)) h' := by
  refine XM_intro [(0, .ref (q 0)), (1, .int p0), (2, .int p1)] "SignalBlind" (by decide) rfl rfl (Nat.le_of_ble_eq_true rfl) (fun κ X R => ?_)
  unfold f_X11_passed at hf
  refine x_aload_n X dX11_passed_0 0 rfl rfl ?_
  refine x_iload_n X dX11_passed_1 1 rfl rfl ?_
  obtain ⟨r1, g2, hf⟩ := bnr_some hf
  refine c_X11_88 X hω g2 (hR := ⟨Nat.le_of_ble_eq_true rfl, Nat.le_of_ble_eq_true rfl⟩) ⟨Nat.zero_le _, Nat.zero_le _⟩ (Nat.le_of_ble_eq_true rfl) dX11_passed_2 ?_
  refine x_if_eq X 18 dX11_passed_5 (by decide) (fun c3 => ?_) (fun c3 => ?_)
  · replace hf := (if_pos c3).symm.trans hf
    refine x_lv [] rfl ?_
    exact k_X11_passed_18 hω X R h hf
  · replace hf := (if_neg c3).symm.trans hf
    refine x_iload_n X dX11_passed_8 2 rfl rfl ?_
    refine x_iconst X (v := -1) dX11_passed_9 (by decide) ?_
    refine x_icmp_lt X 18 dX11_passed_10 (by decide) (fun c4 => ?_) (fun c4 => ?_)
    · replace hf := (if_pos c4).symm.trans hf
      refine x_lv [] rfl ?_
      exact k_X11_passed_18 hω X R h hf
    · replace hf := (if_neg c4).symm.trans hf
      refine x_iload_n X dX11_passed_13 2 rfl rfl ?_
      refine x_iconst X (v := 5) dX11_passed_14 (by decide) ?_
      refine x_icmp_lt X 20 dX11_passed_15 (by decide) (fun c5 => ?_) (fun c5 => ?_)
      · replace hf := (if_pos c5).symm.trans hf
        refine x_iload_n X dX11_passed_20 2 rfl rfl ?_
        refine x_aload_n X dX11_passed_21 0 rfl rfl ?_
        refine x_getsj X (i := 0) 1 fl_X11_14_12 (sdX_0 hω) (ks_0 _) rfl (j := 1) rfl dX11_passed_22 ?_
        refine x_geti X (i := 1) fl_X11_101_4 (sdX_1 hω) (ks_1 _) rfl dX11_passed_25 ?_
        refine x_icmp_lt X 34 dX11_passed_28 (by decide) (fun c6 => ?_) (fun c6 => ?_)
        · replace hf := (if_pos c6).symm.trans hf
          refine x_aload_n X dX11_passed_34 0 rfl rfl ?_
          refine x_aload_n X dX11_passed_35 0 rfl rfl ?_
          refine x_getsj X (i := 0) 1 fl_X11_14_12 (sdX_0 hω) (ks_0 _) rfl (j := 1) rfl dX11_passed_36 ?_
          refine x_getsj X (i := 1) 1 fl_X11_77_4 (sdX_1 hω) (ks_1 _) rfl (j := 2) rfl dX11_passed_39 ?_
          refine x_iload_n X dX11_passed_42 1 rfl rfl ?_
          obtain ⟨r7, g8, hf⟩ := bnr_some hf
          refine c_X11_91 X hω g8 (sdX_2 hω) (ks_2 _) (hR := ⟨Nat.le_of_ble_eq_true rfl, Nat.le_of_ble_eq_true rfl⟩) ⟨Nat.zero_le _, Nat.zero_le _⟩ (Nat.le_of_ble_eq_true rfl) dX11_passed_43 ?_
          obtain ⟨h9, r10, g11, hf⟩ := bnd_some hf
          refine c_X11_182 X hω g11 (hR := ⟨Nat.le_of_ble_eq_true rfl, Nat.le_of_ble_eq_true rfl⟩) ⟨Nat.zero_le _, Nat.zero_le _⟩ (Nat.le_of_ble_eq_true rfl) dX11_passed_46 ?_
          refine x_istore_n X [(3, .int r10), (0, .ref (q 0)), (1, .int p0), (2, .int p1)] dX11_passed_49 rfl (Nat.le_of_ble_eq_true rfl) rfl ?_
          refine x_iload_n X dX11_passed_50 3 rfl rfl ?_
          refine x_if_ge X 58 dX11_passed_51 (by decide) (fun c12 => ?_) (fun c12 => ?_)
          · replace hf := (if_pos c12).symm.trans hf
            refine x_iload_n X dX11_passed_54 0 rfl rfl ?_
            refine x_goto X 64 dX11_passed_55 (by decide) ?_
            refine x_lv [] rfl ?_
            exact k_X11_passed_64 hω X R h9 _ hf
          · replace hf := (if_neg c12).symm.trans hf
            refine x_aload_n X dX11_passed_58 1 rfl rfl ?_
            refine x_getsj X (i := 0) 38 fl_X11_69_12 (sdX_0 hω) (ks_0 _) rfl (j := 38) rfl dX11_passed_59 ?_
            refine x_iload_n X dX11_passed_62 3 rfl rfl ?_
            obtain ⟨z14, hf⟩ := chk_some hf
            refine x_iald X (i := 38) (n := 5) (sdX_38 hω) (ks_38 _) z14 dX11_passed_63 ?_
            refine x_lv [] rfl ?_
            exact k_X11_passed_64 hω X R h9 _ hf
        · replace hf := (if_neg c6).symm.trans hf
          refine x_bipush X (v := -5) dX11_passed_31 (by decide) ?_
          exact x_retSI X R hf dX11_passed_33
      · replace hf := (if_neg c5).symm.trans hf
        refine x_lv [] rfl ?_
        exact k_X11_passed_18 hω X R h hf
theorem mt_X11_passed : MT yX11_passed cX11_passed 4 (some .int) "SignalBlind" 2 := ⟨(mT_3 187 rfl rfl), (mT_3 188 rfl rfl), (mT_1 1 rfl rfl), (mT_3 189 rfl rfl), by decide⟩

abbrev rm_X11_addPair : Room := { frames := 1, cells := 0, slots := 0, locals := 21 }
def f_X11_addPair_54 (h : hp) (a19 : Int32) : Option (hp × Int32) := (some (h, a19))
def f_X11_addPair (h : hp) (p0 : Nat) (p1 : Int32) (p2 : Int32) : Option (hp × Int32) := (if p1 = (-1 : Int32) then
 (ckO 1 h p0 4
 (bnd (f_X2_clear h p0) fun h3 _ =>
 (some (h3, (0 : Int32)))))
 else
 (bnr (f_X11_isWord h p1) fun r5 =>
 (if r5 = 0 then
 (some (h, (-1 : Int32)))
 else
 (bnr (f_X11_isSign h p2) fun r8 =>
 (if r8 = 0 then
 (some (h, (-2 : Int32)))
 else
 (ckO 1 h p0 4
 (bnr (f_X2_isFull h p0) fun r12 =>
 (if r12 = 0 then
 (ckO 1 h p0 4
 (bnd (f_X2_add h p0 ((p1 * (1024 : Int32)) + p2)) fun h16 r17 =>
 (f_X11_addPair_54 h16 r17)))
 else
 (f_X11_addPair_54 h (-4 : Int32))))))))))
set_option maxRecDepth 100000 in
set_option maxHeartbeats 4000000 in
theorem k_X11_addPair_54 {ω : XO} (hω : ω.2.2.2.1 = 1) {κ : XK} (X : XC ω rm_X11_addPair 4 κ cX11_addPair "SignalBlind") {L : List Nat} {q : Nat → Nat} {h' : hp} {r : Int32} (R : XRet ω rm_X11_addPair κ (some .int) L q h' (some (.int r))) : ∀ (h : hp) (a19 : Int32), f_X11_addPair_54 h a19 = some (h', r) → XG ω rm_X11_addPair 4 κ L q h 0 0 54 [] [.int a19] := by
  intro h a19 hf
  unfold f_X11_addPair_54 at hf
  exact x_retSI X R hf dX11_addPair_54
set_option maxRecDepth 100000 in
set_option maxHeartbeats 4000000 in
theorem k_X11_addPair {ω : XO} (hω : ω.2.2.2.1 = 1) {L : List Nat} {q : Nat → Nat} {h h' : hp} {p0 : Nat} {p1 : Int32} {p2 : Int32} {r : Int32} (hf : f_X11_addPair h p0 p1 p2 = some (h', r)) : XM ω yX11_addPair cX11_addPair 4 (some .int) rm_X11_addPair L q h [.ref (q 0), .ref (q p0), .int p1, .int p2] (some (.int r)) h' := by
  refine XM_intro [(0, .ref (q 0)), (1, .ref (q p0)), (2, .int p1), (3, .int p2)] "SignalBlind" (by decide) rfl rfl (Nat.le_of_ble_eq_true rfl) (fun κ X R => ?_)
  unfold f_X11_addPair at hf
  refine x_iload_n X dX11_addPair_0 2 rfl rfl ?_
  refine x_iconst X (v := -1) dX11_addPair_1 (by decide) ?_
  refine x_icmp_ne X 11 dX11_addPair_2 (by decide) (fun c1 => ?_) (fun c1 => ?_)
  · replace hf := (if_pos c1).symm.trans hf
    refine x_aload_n X dX11_addPair_5 1 rfl rfl ?_
    obtain ⟨b2, hf⟩ := ckO_some hf
    obtain ⟨h3, uh3, g4, hf⟩ := bnd_some hf
    refine c_X11_152 X hω g4 (sd_of hω b2.1) b2.2 (hR := ⟨Nat.le_of_ble_eq_true rfl, Nat.le_of_ble_eq_true rfl⟩) ⟨Nat.zero_le _, Nat.zero_le _⟩ (Nat.le_of_ble_eq_true rfl) dX11_addPair_6 ?_
    refine x_iconst X (v := 0) dX11_addPair_9 (by decide) ?_
    exact x_retSI X R hf dX11_addPair_10
  · replace hf := (if_neg c1).symm.trans hf
    refine x_aload_n X dX11_addPair_11 0 rfl rfl ?_
    refine x_iload_n X dX11_addPair_12 2 rfl rfl ?_
    obtain ⟨r5, g6, hf⟩ := bnr_some hf
    refine c_X11_88 X hω g6 (hR := ⟨Nat.le_of_ble_eq_true rfl, Nat.le_of_ble_eq_true rfl⟩) ⟨Nat.zero_le _, Nat.zero_le _⟩ (Nat.le_of_ble_eq_true rfl) dX11_addPair_13 ?_
    refine x_if_ne X 21 dX11_addPair_16 (by decide) (fun c7 => ?_) (fun c7 => ?_)
    · replace hf := (if_pos c7).symm.trans hf
      refine x_iconst X (v := -1) dX11_addPair_19 (by decide) ?_
      exact x_retSI X R hf dX11_addPair_20
    · replace hf := (if_neg c7).symm.trans hf
      refine x_iload_n X dX11_addPair_21 3 rfl rfl ?_
      obtain ⟨r8, g9, hf⟩ := bnr_some hf
      refine c_X11_73 X hω g9 (hR := ⟨Nat.le_of_ble_eq_true rfl, Nat.le_of_ble_eq_true rfl⟩) ⟨Nat.zero_le _, Nat.zero_le _⟩ (Nat.le_of_ble_eq_true rfl) dX11_addPair_22 ?_
      refine x_if_ne X 31 dX11_addPair_25 (by decide) (fun c10 => ?_) (fun c10 => ?_)
      · replace hf := (if_pos c10).symm.trans hf
        refine x_bipush X (v := -2) dX11_addPair_28 (by decide) ?_
        exact x_retSI X R hf dX11_addPair_30
      · replace hf := (if_neg c10).symm.trans hf
        refine x_aload_n X dX11_addPair_31 1 rfl rfl ?_
        obtain ⟨b11, hf⟩ := ckO_some hf
        obtain ⟨r12, g13, hf⟩ := bnr_some hf
        refine c_X11_80 X hω g13 (sd_of hω b11.1) b11.2 (hR := ⟨Nat.le_of_ble_eq_true rfl, Nat.le_of_ble_eq_true rfl⟩) ⟨Nat.zero_le _, Nat.zero_le _⟩ (Nat.le_of_ble_eq_true rfl) dX11_addPair_32 ?_
        refine x_if_eq X 43 dX11_addPair_35 (by decide) (fun c14 => ?_) (fun c14 => ?_)
        · replace hf := (if_pos c14).symm.trans hf
          refine x_aload_n X dX11_addPair_43 1 rfl rfl ?_
          refine x_iload_n X dX11_addPair_44 2 rfl rfl ?_
          refine x_sipush X (v := 1024) dX11_addPair_45 (by decide) ?_
          refine x_imul X dX11_addPair_48 ?_
          refine x_iload_n X dX11_addPair_49 3 rfl rfl ?_
          refine x_iadd X dX11_addPair_50 ?_
          obtain ⟨b15, hf⟩ := ckO_some hf
          obtain ⟨h16, r17, g18, hf⟩ := bnd_some hf
          refine c_X11_84 X hω g18 (sd_of hω b15.1) b15.2 (hR := ⟨Nat.le_of_ble_eq_true rfl, Nat.le_of_ble_eq_true rfl⟩) ⟨Nat.zero_le _, Nat.zero_le _⟩ (Nat.le_of_ble_eq_true rfl) dX11_addPair_51 ?_
          refine x_lv [] rfl ?_
          exact k_X11_addPair_54 hω X R h16 _ hf
        · replace hf := (if_neg c14).symm.trans hf
          refine x_bipush X (v := -4) dX11_addPair_38 (by decide) ?_
          refine x_goto X 54 dX11_addPair_40 (by decide) ?_
          refine x_lv [] rfl ?_
          exact k_X11_addPair_54 hω X R h _ hf
theorem mt_X11_addPair : MT yX11_addPair cX11_addPair 4 (some .int) "SignalBlind" 3 := ⟨(mT_3 215 rfl rfl), (mTp (q := (yX11_addPair, 12)) (by decide +kernel) rfl), (mT_1 1 rfl rfl), (mT_3 216 rfl rfl), by decide⟩
theorem c_X11_188 {ω : XO} {rm : Room} {nL : Nat} {κ : XK} {cc : ByteArray} (X : XC ω rm nL κ cc "SignalBlind") (hω : ω.2.2.2.1 = 1) {L : List Nat} {q : Nat → Nat} {h h' : hp} {cells slots pc : Nat} {lv : List (Nat × Value)} {rest : List Value} {p0 : Nat} {p1 : Int32} {p2 : Int32} {r : Int32} (hf : f_X11_addPair h p0 p1 p2 = some (h', r)) (hR : rm_X11_addPair.frames + 1 ≤ rm.frames ∧ 8 + (4 + 11) + rm_X11_addPair.locals ≤ rm.locals) (hcs : cells ≤ rm.cells ∧ slots ≤ rm.slots) (hroom : (rest.map fun v => v.category).sum ≤ 8) (hd : decode cc pc = .ok (.invokevirtual 188, 3)) (kk : XG ω rm nL κ L q h' cells slots (pc + 3) lv (.int r :: rest)) : XG ω rm nL κ L q h cells slots pc lv (.int p2 :: .int p1 :: .ref (q p0) :: .ref (q 0) :: rest) := x_callV X [.ref (q p0), .int p1, .int p2] rest (k_X11_addPair hω hf) mt_X11_addPair (mT_3 213 rfl rfl) hR ⟨rfl, rfl⟩ hcs (sdX_0 hω) (ks_0 _) (by decide) rfl rfl hroom hd kk

abbrev rm_X11_see : Room := { frames := 2, cells := 0, slots := 0, locals := 44 }
def f_X11_see (h : hp) (p0 : Int32) (p1 : Int32) : Option (hp × Int32) := (bnd (f_X11_addPair h 7 p0 p1) fun h1 r2 =>
 (some (h1, r2)))
set_option maxRecDepth 100000 in
set_option maxHeartbeats 4000000 in
theorem k_X11_see {ω : XO} (hω : ω.2.2.2.1 = 1) {L : List Nat} {q : Nat → Nat} {h h' : hp} {p0 : Int32} {p1 : Int32} {r : Int32} (hf : f_X11_see h p0 p1 = some (h', r)) : XM ω yX11_see cX11_see 3 (some .int) rm_X11_see L q h [.ref (q 0), .int p0, .int p1] (some (.int r)) h' := by
  refine XM_intro [(0, .ref (q 0)), (1, .int p0), (2, .int p1)] "SignalBlind" (by decide) rfl rfl (Nat.le_of_ble_eq_true rfl) (fun κ X R => ?_)
  unfold f_X11_see at hf
  refine x_aload_n X dX11_see_0 0 rfl rfl ?_
  refine x_aload_n X dX11_see_1 0 rfl rfl ?_
  refine x_getsj X (i := 0) 1 fl_X11_14_12 (sdX_0 hω) (ks_0 _) rfl (j := 1) rfl dX11_see_2 ?_
  refine x_getsj X (i := 1) 6 fl_X11_185_4 (sdX_1 hω) (ks_1 _) rfl (j := 7) rfl dX11_see_5 ?_
  refine x_iload_n X dX11_see_8 1 rfl rfl ?_
  refine x_iload_n X dX11_see_9 2 rfl rfl ?_
  obtain ⟨h1, r2, g3, hf⟩ := bnd_some hf
  refine c_X11_188 X hω g3 (hR := ⟨Nat.le_of_ble_eq_true rfl, Nat.le_of_ble_eq_true rfl⟩) ⟨Nat.zero_le _, Nat.zero_le _⟩ (Nat.le_of_ble_eq_true rfl) dX11_see_10 ?_
  exact x_retSI X R hf dX11_see_13
theorem mt_X11_see : MT yX11_see cX11_see 3 (some .int) "SignalBlind" 2 := ⟨(mT_3 210 rfl rfl), (mT_3 211 rfl rfl), (mT_1 1 rfl rfl), (mT_3 212 rfl rfl), by decide⟩

abbrev rm_X11_fitsSeen : Room := { frames := 4, cells := 0, slots := 0, locals := 102 }
def f_X11_fitsSeen_3 : Nat → hp → Int32 → Int32 → Int32 → Int32 → Option (hp × Int32)
  | 0, _, _, _, _, _ => none
  | n + 1, h, a1, a2, a3, a4 => (if a4 < (hI h 7 1) then
 (bnr (f_X2_get h 7 a4) fun r6 =>
 (nz (1024 : Int32)
 (bnr (f_X2_get h 2 (r6 / (1024 : Int32))) fun r9 =>
 (bnd (f_X11_shown h a1 a2 a3 r9) fun h11 r12 =>
 (nz (1024 : Int32)
 (if r12 = (r6 - r6 / (1024 : Int32) * (1024 : Int32)) then
 (nm (a4 + (1 : Int32)) fun v16 =>
 ((f_X11_fitsSeen_3 n) h11 a1 a2 a3 v16))
 else
 (some (h11, (0 : Int32)))))))))
 else
 (some (h, (1 : Int32))))
def f_X11_fitsSeen (h : hp) (p0 : Int32) (p1 : Int32) (p2 : Int32) : Option (hp × Int32) := (f_X11_fitsSeen_3 2000 h p0 p1 p2 (0 : Int32))
set_option maxRecDepth 100000 in
set_option maxHeartbeats 4000000 in
theorem k_X11_fitsSeen_3 {ω : XO} (hω : ω.2.2.2.1 = 1) {κ : XK} (X : XC ω rm_X11_fitsSeen 6 κ cX11_fitsSeen "SignalBlind") {L : List Nat} {q : Nat → Nat} {h' : hp} {r : Int32} (R : XRet ω rm_X11_fitsSeen κ (some .boolean) L q h' (some (.int r))) : ∀ (n : Nat) (h : hp) (a1 : Int32) (a2 : Int32) (a3 : Int32) (a4 : Int32), f_X11_fitsSeen_3 n h a1 a2 a3 a4 = some (h', r) → XG ω rm_X11_fitsSeen 6 κ L q h 0 0 3 [(0, .ref (q 0)), (1, .int a1), (2, .int a2), (3, .int a3), (4, .int a4)] [] := by
  intro n
  induction n with
  | zero =>
    intro h a1 a2 a3 a4 hf
    have hf : (none : Option (hp × Int32)) = some (h', r) := hf
    cases hf
  | succ n ih =>
    intro h a1 a2 a3 a4 hf
    rw [f_X11_fitsSeen_3] at hf
    refine x_iload X dX11_fitsSeen_3 4 rfl ?_
    refine x_aload_n X dX11_fitsSeen_5 0 rfl rfl ?_
    refine x_getsj X (i := 0) 1 fl_X11_14_12 (sdX_0 hω) (ks_0 _) rfl (j := 1) rfl dX11_fitsSeen_6 ?_
    refine x_getsj X (i := 1) 6 fl_X11_185_4 (sdX_1 hω) (ks_1 _) rfl (j := 7) rfl dX11_fitsSeen_9 ?_
    refine x_geti X (i := 7) fl_X11_179_3 (sdX_7 hω) (ks_7 _) rfl dX11_fitsSeen_12 ?_
    refine x_icmp_ge X 72 dX11_fitsSeen_15 (by decide) (fun c5 => ?_) (fun c5 => ?_)
    · replace hf := (if_pos c5).symm.trans hf
      refine x_aload_n X dX11_fitsSeen_18 0 rfl rfl ?_
      refine x_getsj X (i := 0) 1 fl_X11_14_12 (sdX_0 hω) (ks_0 _) rfl (j := 1) rfl dX11_fitsSeen_19 ?_
      refine x_getsj X (i := 1) 6 fl_X11_185_4 (sdX_1 hω) (ks_1 _) rfl (j := 7) rfl dX11_fitsSeen_22 ?_
      refine x_iload X dX11_fitsSeen_25 4 rfl ?_
      obtain ⟨r6, g7, hf⟩ := bnr_some hf
      refine c_X11_91 X hω g7 (sdX_7 hω) (ks_7 _) (hR := ⟨Nat.le_of_ble_eq_true rfl, Nat.le_of_ble_eq_true rfl⟩) ⟨Nat.zero_le _, Nat.zero_le _⟩ (Nat.le_of_ble_eq_true rfl) dX11_fitsSeen_27 ?_
      refine x_istore X [(5, .int r6), (0, .ref (q 0)), (1, .int a1), (2, .int a2), (3, .int a3), (4, .int a4)] dX11_fitsSeen_30 (Nat.le_of_ble_eq_true rfl) rfl ?_
      refine x_aload_n X dX11_fitsSeen_32 1 rfl rfl ?_
      refine x_iload_n X dX11_fitsSeen_33 2 rfl rfl ?_
      refine x_iload_n X dX11_fitsSeen_34 3 rfl rfl ?_
      refine x_iload_n X dX11_fitsSeen_35 4 rfl rfl ?_
      refine x_aload_n X dX11_fitsSeen_36 1 rfl rfl ?_
      refine x_getsj X (i := 0) 1 fl_X11_14_12 (sdX_0 hω) (ks_0 _) rfl (j := 1) rfl dX11_fitsSeen_37 ?_
      refine x_getsj X (i := 1) 1 fl_X11_77_4 (sdX_1 hω) (ks_1 _) rfl (j := 2) rfl dX11_fitsSeen_40 ?_
      refine x_iload X dX11_fitsSeen_43 0 rfl ?_
      refine x_sipush X (v := 1024) dX11_fitsSeen_45 (by decide) ?_
      obtain ⟨z8, hf⟩ := nz_some hf
      refine x_idiv X dX11_fitsSeen_48 z8 ?_
      obtain ⟨r9, g10, hf⟩ := bnr_some hf
      refine c_X11_91 X hω g10 (sdX_2 hω) (ks_2 _) (hR := ⟨Nat.le_of_ble_eq_true rfl, Nat.le_of_ble_eq_true rfl⟩) ⟨Nat.zero_le _, Nat.zero_le _⟩ (Nat.le_of_ble_eq_true rfl) dX11_fitsSeen_49 ?_
      obtain ⟨h11, r12, g13, hf⟩ := bnd_some hf
      refine c_X11_209 X hω g13 (hR := ⟨Nat.le_of_ble_eq_true rfl, Nat.le_of_ble_eq_true rfl⟩) ⟨Nat.zero_le _, Nat.zero_le _⟩ (Nat.le_of_ble_eq_true rfl) dX11_fitsSeen_52 ?_
      refine x_iload X dX11_fitsSeen_55 0 rfl ?_
      refine x_sipush X (v := 1024) dX11_fitsSeen_57 (by decide) ?_
      obtain ⟨z14, hf⟩ := nz_some hf
      refine x_irem X dX11_fitsSeen_60 z14 ?_
      refine x_icmp_eq X 66 dX11_fitsSeen_61 (by decide) (fun c15 => ?_) (fun c15 => ?_)
      · replace hf := (if_pos c15).symm.trans hf
        obtain ⟨v16, ev16, hf⟩ := nm_some hf
        refine x_iincN X (v := 1) ev16 [(4, .int v16), (5, .int r6), (0, .ref (q 0)), (1, .int a1), (2, .int a2), (3, .int a3)] dX11_fitsSeen_66 5 rfl (by decide) (Nat.le_of_ble_eq_true rfl) rfl ?_
        refine x_goto X 3 dX11_fitsSeen_69 (by decide) ?_
        refine x_lv [2, 3, 4, 5, 0] rfl ?_
        exact ih h11 _ _ _ _ hf
      · replace hf := (if_neg c15).symm.trans hf
        refine x_iconst X (v := 0) dX11_fitsSeen_64 (by decide) ?_
        exact x_retSZ X R (by decide) hf dX11_fitsSeen_65
    · replace hf := (if_neg c5).symm.trans hf
      refine x_iconst X (v := 1) dX11_fitsSeen_72 (by decide) ?_
      exact x_retSZ X R (by decide) hf dX11_fitsSeen_73
set_option maxRecDepth 100000 in
set_option maxHeartbeats 4000000 in
theorem k_X11_fitsSeen {ω : XO} (hω : ω.2.2.2.1 = 1) {L : List Nat} {q : Nat → Nat} {h h' : hp} {p0 : Int32} {p1 : Int32} {p2 : Int32} {r : Int32} (hf : f_X11_fitsSeen h p0 p1 p2 = some (h', r)) : XM ω yX11_fitsSeen cX11_fitsSeen 6 (some .boolean) rm_X11_fitsSeen L q h [.ref (q 0), .int p0, .int p1, .int p2] (some (.int r)) h' := by
  refine XM_intro [(0, .ref (q 0)), (1, .int p0), (2, .int p1), (3, .int p2)] "SignalBlind" (by decide) rfl rfl (Nat.le_of_ble_eq_true rfl) (fun κ X R => ?_)
  unfold f_X11_fitsSeen at hf
  refine x_iconst X (v := 0) dX11_fitsSeen_0 (by decide) ?_
  refine x_istore X [(4, .int (0 : Int32)), (0, .ref (q 0)), (1, .int p0), (2, .int p1), (3, .int p2)] dX11_fitsSeen_1 (Nat.le_of_ble_eq_true rfl) rfl ?_
  refine x_lv [1, 2, 3, 4, 0] rfl ?_
  exact k_X11_fitsSeen_3 hω X R _ h _ _ _ _ hf
theorem mt_X11_fitsSeen : MT yX11_fitsSeen cX11_fitsSeen 6 (some .boolean) "SignalBlind" 3 := ⟨(mT_3 223 rfl rfl), (mTp (q := (yX11_fitsSeen, 12)) (by decide +kernel) rfl), (mT_1 1 rfl rfl), (mT_3 224 rfl rfl), by decide⟩
theorem c_X11_192 {ω : XO} {rm : Room} {nL : Nat} {κ : XK} {cc : ByteArray} (X : XC ω rm nL κ cc "SignalBlind") (hω : ω.2.2.2.1 = 1) {L : List Nat} {q : Nat → Nat} {h h' : hp} {cells slots pc : Nat} {lv : List (Nat × Value)} {rest : List Value} {p0 : Int32} {p1 : Int32} {p2 : Int32} {r : Int32} (hf : f_X11_fitsSeen h p0 p1 p2 = some (h', r)) (hR : rm_X11_fitsSeen.frames + 1 ≤ rm.frames ∧ 8 + (6 + 11) + rm_X11_fitsSeen.locals ≤ rm.locals) (hcs : cells ≤ rm.cells ∧ slots ≤ rm.slots) (hroom : (rest.map fun v => v.category).sum ≤ 8) (hd : decode cc pc = .ok (.invokevirtual 192, 3)) (kk : XG ω rm nL κ L q h' cells slots (pc + 3) lv (.int r :: rest)) : XG ω rm nL κ L q h cells slots pc lv (.int p2 :: .int p1 :: .int p0 :: .ref (q 0) :: rest) := x_callV X [.int p0, .int p1, .int p2] rest (k_X11_fitsSeen hω hf) mt_X11_fitsSeen (mT_3 221 rfl rfl) hR ⟨rfl, rfl⟩ hcs (sdX_0 hω) (ks_0 _) (by decide) rfl rfl hroom hd kk

abbrev rm_X11_can : Room := { frames := 5, cells := 0, slots := 0, locals := 127 }
def f_X11_can_15 (h : hp) : Option (hp × Int32) := (some (h, (-1 : Int32)))
def f_X11_can_65 (k26 : hp → Int32 → Int32 → Int32 → Int32 → Int32 → Option (hp × Int32)) (h : hp) (a17 : Int32) (a18 : Int32) (a19 : Int32) (a20 : Int32) (a21 : Int32) : Option (hp × Int32) := (nm (a21 + (1 : Int32)) fun v22 =>
 (k26 h a17 a18 a19 a20 v22))
def f_X11_can_61 (k26 : hp → Int32 → Int32 → Int32 → Int32 → Int32 → Option (hp × Int32)) (h : hp) (a24 : Int32) (a25 : Int32) (a26 : Int32) (a27 : Int32) (a28 : Int32) : Option (hp × Int32) := (nm (a26 + (1 : Int32)) fun v29 =>
 (f_X11_can_65 k26 h a24 a25 a28 v29 a27))
def f_X11_can_81 (h : hp) (a31 : Int32) : Option (hp × Int32) := (some (h, a31))
def f_X11_can_26 : Nat → hp → Int32 → Int32 → Int32 → Int32 → Int32 → Option (hp × Int32)
  | 0, _, _, _, _, _, _ => none
  | n + 1, h, a7, a8, a9, a10, a11 => (if a11 < (10 : Int32) then
 (bnd (f_X11_fitsSeen h a7 a11 (hI h 1 5)) fun h13 r14 =>
 (if r14 = 0 then
 (f_X11_can_65 (f_X11_can_26 n) h13 a7 a8 a9 a10 a11)
 else
 (if a10 = 0 then
 (f_X11_can_61 (f_X11_can_26 n) h13 a7 a8 a10 a11 a11)
 else
 (f_X11_can_61 (f_X11_can_26 n) h13 a7 a8 a10 a11 a9))))
 else
 (if a8 = 0 then
 (f_X11_can_81 h a10)
 else
 (f_X11_can_81 h a9)))
def f_X11_can (h : hp) (p0 : Int32) (p1 : Int32) : Option (hp × Int32) := (bnr (f_X11_isSender h p0) fun r1 =>
 (if r1 = 0 then
 (f_X11_can_15 h)
 else
 (bnr (f_X11_isPart h p1) fun r4 =>
 (if r4 = 0 then
 (f_X11_can_15 h)
 else
 (f_X11_can_26 2000 h p0 p1 (-5 : Int32) (0 : Int32) (0 : Int32))))))
set_option maxRecDepth 100000 in
set_option maxHeartbeats 4000000 in
theorem k_X11_can_15 {ω : XO} (hω : ω.2.2.2.1 = 1) {κ : XK} (X : XC ω rm_X11_can 6 κ cX11_can "SignalBlind") {L : List Nat} {q : Nat → Nat} {h' : hp} {r : Int32} (R : XRet ω rm_X11_can κ (some .int) L q h' (some (.int r))) : ∀ (h : hp), f_X11_can_15 h = some (h', r) → XG ω rm_X11_can 6 κ L q h 0 0 15 [] [] := by
  intro h hf
  unfold f_X11_can_15 at hf
  refine x_iconst X (v := -1) dX11_can_15 (by decide) ?_
  exact x_retSI X R hf dX11_can_16
set_option maxRecDepth 100000 in
set_option maxHeartbeats 4000000 in
theorem k_X11_can_65 {ω : XO} (hω : ω.2.2.2.1 = 1) {κ : XK} (X : XC ω rm_X11_can 6 κ cX11_can "SignalBlind") {L : List Nat} {q : Nat → Nat} {h' : hp} {r : Int32} (R : XRet ω rm_X11_can κ (some .int) L q h' (some (.int r))) (k26 : hp → Int32 → Int32 → Int32 → Int32 → Int32 → Option (hp × Int32)) (hk26 : ∀ (h : hp) (a7 : Int32) (a8 : Int32) (a9 : Int32) (a10 : Int32) (a11 : Int32), k26 h a7 a8 a9 a10 a11 = some (h', r) → XG ω rm_X11_can 6 κ L q h 0 0 26 [(0, .ref (q 0)), (1, .int a7), (2, .int a8), (3, .int a9), (4, .int a10), (5, .int a11)] []) : ∀ (h : hp) (a17 : Int32) (a18 : Int32) (a19 : Int32) (a20 : Int32) (a21 : Int32), f_X11_can_65 k26 h a17 a18 a19 a20 a21 = some (h', r) → XG ω rm_X11_can 6 κ L q h 0 0 65 [(0, .ref (q 0)), (1, .int a17), (2, .int a18), (3, .int a19), (4, .int a20), (5, .int a21)] [] := by
  intro h a17 a18 a19 a20 a21 hf
  unfold f_X11_can_65 at hf
  obtain ⟨v22, ev22, hf⟩ := nm_some hf
  refine x_iincN X (v := 1) ev22 [(5, .int v22), (0, .ref (q 0)), (1, .int a17), (2, .int a18), (3, .int a19), (4, .int a20)] dX11_can_65 5 rfl (by decide) (Nat.le_of_ble_eq_true rfl) rfl ?_
  refine x_goto X 26 dX11_can_68 (by decide) ?_
  refine x_lv [1, 2, 3, 4, 5, 0] rfl ?_
  exact hk26 h _ _ _ _ _ hf
set_option maxRecDepth 100000 in
set_option maxHeartbeats 4000000 in
theorem k_X11_can_61 {ω : XO} (hω : ω.2.2.2.1 = 1) {κ : XK} (X : XC ω rm_X11_can 6 κ cX11_can "SignalBlind") {L : List Nat} {q : Nat → Nat} {h' : hp} {r : Int32} (R : XRet ω rm_X11_can κ (some .int) L q h' (some (.int r))) (k26 : hp → Int32 → Int32 → Int32 → Int32 → Int32 → Option (hp × Int32)) (hk26 : ∀ (h : hp) (a7 : Int32) (a8 : Int32) (a9 : Int32) (a10 : Int32) (a11 : Int32), k26 h a7 a8 a9 a10 a11 = some (h', r) → XG ω rm_X11_can 6 κ L q h 0 0 26 [(0, .ref (q 0)), (1, .int a7), (2, .int a8), (3, .int a9), (4, .int a10), (5, .int a11)] []) : ∀ (h : hp) (a24 : Int32) (a25 : Int32) (a26 : Int32) (a27 : Int32) (a28 : Int32), f_X11_can_61 k26 h a24 a25 a26 a27 a28 = some (h', r) → XG ω rm_X11_can 6 κ L q h 0 0 61 [(0, .ref (q 0)), (1, .int a24), (2, .int a25), (4, .int a26), (5, .int a27)] [.int a28] := by
  intro h a24 a25 a26 a27 a28 hf
  unfold f_X11_can_61 at hf
  refine x_istore_n X [(3, .int a28), (0, .ref (q 0)), (1, .int a24), (2, .int a25), (4, .int a26), (5, .int a27)] dX11_can_61 rfl (Nat.le_of_ble_eq_true rfl) rfl ?_
  obtain ⟨v29, ev29, hf⟩ := nm_some hf
  refine x_iincN X (v := 1) ev29 [(4, .int v29), (3, .int a28), (0, .ref (q 0)), (1, .int a24), (2, .int a25), (5, .int a27)] dX11_can_62 4 rfl (by decide) (Nat.le_of_ble_eq_true rfl) rfl ?_
  refine x_lv [2, 3, 4, 1, 0, 5] rfl ?_
  exact k_X11_can_65 hω X R _ hk26 h _ _ _ _ _ hf
set_option maxRecDepth 100000 in
set_option maxHeartbeats 4000000 in
theorem k_X11_can_81 {ω : XO} (hω : ω.2.2.2.1 = 1) {κ : XK} (X : XC ω rm_X11_can 6 κ cX11_can "SignalBlind") {L : List Nat} {q : Nat → Nat} {h' : hp} {r : Int32} (R : XRet ω rm_X11_can κ (some .int) L q h' (some (.int r))) : ∀ (h : hp) (a31 : Int32), f_X11_can_81 h a31 = some (h', r) → XG ω rm_X11_can 6 κ L q h 0 0 81 [] [.int a31] := by
  intro h a31 hf
  unfold f_X11_can_81 at hf
  exact x_retSI X R hf dX11_can_81
set_option maxRecDepth 100000 in
set_option maxHeartbeats 4000000 in
theorem k_X11_can_26 {ω : XO} (hω : ω.2.2.2.1 = 1) {κ : XK} (X : XC ω rm_X11_can 6 κ cX11_can "SignalBlind") {L : List Nat} {q : Nat → Nat} {h' : hp} {r : Int32} (R : XRet ω rm_X11_can κ (some .int) L q h' (some (.int r))) : ∀ (n : Nat) (h : hp) (a7 : Int32) (a8 : Int32) (a9 : Int32) (a10 : Int32) (a11 : Int32), f_X11_can_26 n h a7 a8 a9 a10 a11 = some (h', r) → XG ω rm_X11_can 6 κ L q h 0 0 26 [(0, .ref (q 0)), (1, .int a7), (2, .int a8), (3, .int a9), (4, .int a10), (5, .int a11)] [] := by
  intro n
  induction n with
  | zero =>
    intro h a7 a8 a9 a10 a11 hf
    have hf : (none : Option (hp × Int32)) = some (h', r) := hf
    cases hf
  | succ n ih =>
    intro h a7 a8 a9 a10 a11 hf
    rw [f_X11_can_26] at hf
    refine x_iload X dX11_can_26 5 rfl ?_
    refine x_bipush X (v := 10) dX11_can_28 (by decide) ?_
    refine x_icmp_ge X 71 dX11_can_30 (by decide) (fun c12 => ?_) (fun c12 => ?_)
    · replace hf := (if_pos c12).symm.trans hf
      refine x_aload_n X dX11_can_33 0 rfl rfl ?_
      refine x_iload_n X dX11_can_34 1 rfl rfl ?_
      refine x_iload X dX11_can_35 5 rfl ?_
      refine x_aload_n X dX11_can_37 0 rfl rfl ?_
      refine x_getsj X (i := 0) 1 fl_X11_14_12 (sdX_0 hω) (ks_0 _) rfl (j := 1) rfl dX11_can_38 ?_
      refine x_geti X (i := 1) fl_X11_158_4 (sdX_1 hω) (ks_1 _) rfl dX11_can_41 ?_
      obtain ⟨h13, r14, g15, hf⟩ := bnd_some hf
      refine c_X11_192 X hω g15 (hR := ⟨Nat.le_of_ble_eq_true rfl, Nat.le_of_ble_eq_true rfl⟩) ⟨Nat.zero_le _, Nat.zero_le _⟩ (Nat.le_of_ble_eq_true rfl) dX11_can_44 ?_
      refine x_if_eq X 65 dX11_can_47 (by decide) (fun c16 => ?_) (fun c16 => ?_)
      · replace hf := (if_pos c16).symm.trans hf
        refine x_lv [0, 1, 2, 3, 4, 5] rfl ?_
        exact k_X11_can_65 hω X R _ ih h13 _ _ _ _ _ hf
      · replace hf := (if_neg c16).symm.trans hf
        refine x_iload X dX11_can_50 4 rfl ?_
        refine x_if_ne X 60 dX11_can_52 (by decide) (fun c23 => ?_) (fun c23 => ?_)
        · replace hf := (if_pos c23).symm.trans hf
          refine x_iload X dX11_can_55 5 rfl ?_
          refine x_goto X 61 dX11_can_57 (by decide) ?_
          refine x_lv [0, 1, 2, 4, 5] rfl ?_
          exact k_X11_can_61 hω X R _ ih h13 _ _ _ _ _ hf
        · replace hf := (if_neg c23).symm.trans hf
          refine x_iload_n X dX11_can_60 3 rfl rfl ?_
          refine x_lv [0, 1, 2, 4, 5] rfl ?_
          exact k_X11_can_61 hω X R _ ih h13 _ _ _ _ _ hf
    · replace hf := (if_neg c12).symm.trans hf
      refine x_iload_n X dX11_can_71 2 rfl rfl ?_
      refine x_if_ne X 80 dX11_can_72 (by decide) (fun c30 => ?_) (fun c30 => ?_)
      · replace hf := (if_pos c30).symm.trans hf
        refine x_iload X dX11_can_75 4 rfl ?_
        refine x_goto X 81 dX11_can_77 (by decide) ?_
        refine x_lv [] rfl ?_
        exact k_X11_can_81 hω X R h _ hf
      · replace hf := (if_neg c30).symm.trans hf
        refine x_iload_n X dX11_can_80 3 rfl rfl ?_
        refine x_lv [] rfl ?_
        exact k_X11_can_81 hω X R h _ hf
set_option maxRecDepth 100000 in
set_option maxHeartbeats 4000000 in
theorem k_X11_can {ω : XO} (hω : ω.2.2.2.1 = 1) {L : List Nat} {q : Nat → Nat} {h h' : hp} {p0 : Int32} {p1 : Int32} {r : Int32} (hf : f_X11_can h p0 p1 = some (h', r)) : XM ω yX11_can cX11_can 6 (some .int) rm_X11_can L q h [.ref (q 0), .int p0, .int p1] (some (.int r)) h' := by
  refine XM_intro [(0, .ref (q 0)), (1, .int p0), (2, .int p1)] "SignalBlind" (by decide) rfl rfl (Nat.le_of_ble_eq_true rfl) (fun κ X R => ?_)
  unfold f_X11_can at hf
  refine x_aload_n X dX11_can_0 0 rfl rfl ?_
  refine x_iload_n X dX11_can_1 1 rfl rfl ?_
  obtain ⟨r1, g2, hf⟩ := bnr_some hf
  refine c_X11_112 X hω g2 (hR := ⟨Nat.le_of_ble_eq_true rfl, Nat.le_of_ble_eq_true rfl⟩) ⟨Nat.zero_le _, Nat.zero_le _⟩ (Nat.le_of_ble_eq_true rfl) dX11_can_2 ?_
  refine x_if_eq X 15 dX11_can_5 (by decide) (fun c3 => ?_) (fun c3 => ?_)
  · replace hf := (if_pos c3).symm.trans hf
    refine x_lv [] rfl ?_
    exact k_X11_can_15 hω X R h hf
  · replace hf := (if_neg c3).symm.trans hf
    refine x_iload_n X dX11_can_8 2 rfl rfl ?_
    obtain ⟨r4, g5, hf⟩ := bnr_some hf
    refine c_X11_172 X hω g5 (hR := ⟨Nat.le_of_ble_eq_true rfl, Nat.le_of_ble_eq_true rfl⟩) ⟨Nat.zero_le _, Nat.zero_le _⟩ (Nat.le_of_ble_eq_true rfl) dX11_can_9 ?_
    refine x_if_ne X 17 dX11_can_12 (by decide) (fun c6 => ?_) (fun c6 => ?_)
    · replace hf := (if_pos c6).symm.trans hf
      refine x_lv [] rfl ?_
      exact k_X11_can_15 hω X R h hf
    · replace hf := (if_neg c6).symm.trans hf
      refine x_bipush X (v := -5) dX11_can_17 (by decide) ?_
      refine x_istore_n X [(3, .int (-5 : Int32)), (0, .ref (q 0)), (1, .int p0), (2, .int p1)] dX11_can_19 rfl (Nat.le_of_ble_eq_true rfl) rfl ?_
      refine x_iconst X (v := 0) dX11_can_20 (by decide) ?_
      refine x_istore X [(4, .int (0 : Int32)), (3, .int (-5 : Int32)), (0, .ref (q 0)), (1, .int p0), (2, .int p1)] dX11_can_21 (Nat.le_of_ble_eq_true rfl) rfl ?_
      refine x_iconst X (v := 0) dX11_can_23 (by decide) ?_
      refine x_istore X [(5, .int (0 : Int32)), (4, .int (0 : Int32)), (3, .int (-5 : Int32)), (0, .ref (q 0)), (1, .int p0), (2, .int p1)] dX11_can_24 (Nat.le_of_ble_eq_true rfl) rfl ?_
      refine x_lv [3, 4, 5, 2, 1, 0] rfl ?_
      exact k_X11_can_26 hω X R _ h _ _ _ _ _ hf
theorem mt_X11_can : MT yX11_can cX11_can 6 (some .int) "SignalBlind" 2 := ⟨(mT_3 218 rfl rfl), (mT_3 219 rfl rfl), (mT_1 1 rfl rfl), (mT_3 220 rfl rfl), by decide⟩
